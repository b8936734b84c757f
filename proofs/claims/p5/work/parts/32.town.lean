theorem dX9_clear_0 : decode cX9_clear 0 = .ok (.aload_n 0, 1) := by decide +kernel
theorem dX9_clear_1 : decode cX9_clear 1 = .ok (.iconst 0, 1) := by decide +kernel
theorem dX9_clear_2 : decode cX9_clear 2 = .ok (.putfield 40, 3) := by decide +kernel
theorem G387 : Cond.fieldLink "HookedCity$Town" 40 "HookedCity$Town" "persons" "I" ∈ GW := gw_i 387 (by decide +kernel) rfl
theorem dX9_clear_5 : decode cX9_clear 5 = .ok (.aload_n 0, 1) := by decide +kernel
theorem dX9_clear_6 : decode cX9_clear 6 = .ok (.iconst 0, 1) := by decide +kernel
theorem dX9_clear_7 : decode cX9_clear 7 = .ok (.putfield 44, 3) := by decide +kernel
theorem G393 : Cond.fieldLink "HookedCity$Town" 44 "HookedCity$Town" "maids" "I" ∈ GW := gw_i 393 (by decide +kernel) rfl
theorem dX9_clear_10 : decode cX9_clear 10 = .ok (.aload_n 0, 1) := by decide +kernel
theorem dX9_clear_11 : decode cX9_clear 11 = .ok (.iconst 0, 1) := by decide +kernel
theorem dX9_clear_12 : decode cX9_clear 12 = .ok (.putfield 50, 3) := by decide +kernel
theorem G398 : Cond.fieldLink "HookedCity$Town" 50 "HookedCity$Town" "spare" "I" ∈ GW := gw_i 398 (by decide +kernel) rfl
theorem dX9_clear_15 : decode cX9_clear 15 = .ok (.aload_n 0, 1) := by decide +kernel
theorem dX9_clear_16 : decode cX9_clear 16 = .ok (.bipush 12, 2) := by decide +kernel
theorem dX9_clear_18 : decode cX9_clear 18 = .ok (.putfield 53, 3) := by decide +kernel
theorem dX9_clear_21 : decode cX9_clear 21 = .ok (.aload_n 0, 1) := by decide +kernel
theorem dX9_clear_22 : decode cX9_clear 22 = .ok (.iconst 1, 1) := by decide +kernel
theorem dX9_clear_23 : decode cX9_clear 23 = .ok (.putfield 56, 3) := by decide +kernel
theorem dX9_clear_26 : decode cX9_clear 26 = .ok (.aload_n 0, 1) := by decide +kernel
theorem dX9_clear_27 : decode cX9_clear 27 = .ok (.iconst 0, 1) := by decide +kernel
theorem dX9_clear_28 : decode cX9_clear 28 = .ok (.putfield 59, 3) := by decide +kernel
theorem G404 : Cond.fieldLink "HookedCity$Town" 59 "HookedCity$Town" "spareTold" "Z" ∈ GW := gw_i 404 (by decide +kernel) rfl
theorem dX9_clear_31 : decode cX9_clear 31 = .ok (.aload_n 0, 1) := by decide +kernel
theorem dX9_clear_32 : decode cX9_clear 32 = .ok (.iconst 0, 1) := by decide +kernel
theorem dX9_clear_33 : decode cX9_clear 33 = .ok (.putfield 63, 3) := by decide +kernel
theorem G405 : Cond.fieldLink "HookedCity$Town" 63 "HookedCity$Town" "yearTold" "Z" ∈ GW := gw_i 405 (by decide +kernel) rfl
theorem dX9_clear_36 : decode cX9_clear 36 = .ok (.aload_n 0, 1) := by decide +kernel
theorem dX9_clear_37 : decode cX9_clear 37 = .ok (.iconst 0, 1) := by decide +kernel
theorem dX9_clear_38 : decode cX9_clear 38 = .ok (.putfield 66, 3) := by decide +kernel
theorem G406 : Cond.fieldLink "HookedCity$Town" 66 "HookedCity$Town" "julyTold" "Z" ∈ GW := gw_i 406 (by decide +kernel) rfl
theorem dX9_clear_41 : decode cX9_clear 41 = .ok (.aload_n 0, 1) := by decide +kernel
theorem dX9_clear_42 : decode cX9_clear 42 = .ok (.getfield 25, 3) := by decide +kernel
theorem dX9_clear_45 : decode cX9_clear 45 = .ok (.iconst 0, 1) := by decide +kernel
theorem dX9_clear_46 : decode cX9_clear 46 = .ok (.invokestatic 69, 3) := by decide +kernel
theorem G581 : Cond.methodLink "HookedCity$Town" 69 ⟨"java/util/Arrays", "fill", "([II)V"⟩ ∈ GW := gw_i 581 (by decide +kernel) rfl
theorem V_HookedCity_Town_69 : VL "HookedCity$Town" 69 yJ7_fill_53178 cJ7_fill_53178 4 none 2 := ⟨G291, G581, G124, by decide +kernel, by decide +kernel, by decide +kernel⟩
theorem dX9_clear_49 : decode cX9_clear 49 = .ok (.aload_n 0, 1) := by decide +kernel
theorem dX9_clear_50 : decode cX9_clear 50 = .ok (.getfield 28, 3) := by decide +kernel
theorem G379 : Cond.fieldLink "HookedCity$Town" 28 "HookedCity$Town" "into" "[I" ∈ GW := gw_i 379 (by decide +kernel) rfl
theorem dX9_clear_53 : decode cX9_clear 53 = .ok (.iconst (-1), 1) := by decide +kernel
theorem dX9_clear_54 : decode cX9_clear 54 = .ok (.invokestatic 69, 3) := by decide +kernel
theorem dX9_clear_57 : decode cX9_clear 57 = .ok (.aload_n 0, 1) := by decide +kernel
theorem dX9_clear_58 : decode cX9_clear 58 = .ok (.getfield 31, 3) := by decide +kernel
theorem G381 : Cond.fieldLink "HookedCity$Town" 31 "HookedCity$Town" "from" "[I" ∈ GW := gw_i 381 (by decide +kernel) rfl
theorem dX9_clear_61 : decode cX9_clear 61 = .ok (.iconst (-1), 1) := by decide +kernel
theorem dX9_clear_62 : decode cX9_clear 62 = .ok (.invokestatic 69, 3) := by decide +kernel
theorem dX9_clear_65 : decode cX9_clear 65 = .ok (.return_, 1) := by decide +kernel
theorem dX9_copy_0 : decode cX9_copy 0 = .ok (.aload_n 1, 1) := by decide +kernel
theorem dX9_copy_1 : decode cX9_copy 1 = .ok (.getfield 9, 3) := by decide +kernel
theorem G366 : Cond.fieldLink "HookedCity$Town" 9 "HookedCity$Town" "names" "[J" ∈ GW := gw_i 366 (by decide +kernel) rfl
theorem dX9_copy_4 : decode cX9_copy 4 = .ok (.iconst 0, 1) := by decide +kernel
theorem dX9_copy_5 : decode cX9_copy 5 = .ok (.aload_n 0, 1) := by decide +kernel
theorem dX9_copy_6 : decode cX9_copy 6 = .ok (.getfield 9, 3) := by decide +kernel
theorem dX9_copy_9 : decode cX9_copy 9 = .ok (.iconst 0, 1) := by decide +kernel
theorem dX9_copy_10 : decode cX9_copy 10 = .ok (.bipush 9, 2) := by decide +kernel
theorem dX9_copy_12 : decode cX9_copy 12 = .ok (.invokestatic 75, 3) := by decide +kernel
theorem G1348 : Cond.methodLink "HookedCity$Town" 75 ⟨"java/lang/System", "arraycopy", "(Ljava/lang/Object;ILjava/lang/Object;II)V"⟩ ∈ GW := gw_i 1348 (by decide +kernel) rfl
theorem dX9_copy_15 : decode cX9_copy 15 = .ok (.aload_n 1, 1) := by decide +kernel
theorem dX9_copy_16 : decode cX9_copy 16 = .ok (.getfield 15, 3) := by decide +kernel
theorem dX9_copy_19 : decode cX9_copy 19 = .ok (.iconst 0, 1) := by decide +kernel
theorem dX9_copy_20 : decode cX9_copy 20 = .ok (.aload_n 0, 1) := by decide +kernel
theorem dX9_copy_21 : decode cX9_copy 21 = .ok (.getfield 15, 3) := by decide +kernel
theorem dX9_copy_24 : decode cX9_copy 24 = .ok (.iconst 0, 1) := by decide +kernel
theorem dX9_copy_25 : decode cX9_copy 25 = .ok (.bipush 9, 2) := by decide +kernel
theorem dX9_copy_27 : decode cX9_copy 27 = .ok (.invokestatic 75, 3) := by decide +kernel
theorem dX9_copy_30 : decode cX9_copy 30 = .ok (.aload_n 1, 1) := by decide +kernel
theorem dX9_copy_31 : decode cX9_copy 31 = .ok (.getfield 19, 3) := by decide +kernel
theorem dX9_copy_34 : decode cX9_copy 34 = .ok (.iconst 0, 1) := by decide +kernel
theorem dX9_copy_35 : decode cX9_copy 35 = .ok (.aload_n 0, 1) := by decide +kernel
theorem dX9_copy_36 : decode cX9_copy 36 = .ok (.getfield 19, 3) := by decide +kernel
theorem dX9_copy_39 : decode cX9_copy 39 = .ok (.iconst 0, 1) := by decide +kernel
theorem dX9_copy_40 : decode cX9_copy 40 = .ok (.bipush 9, 2) := by decide +kernel
theorem dX9_copy_42 : decode cX9_copy 42 = .ok (.invokestatic 75, 3) := by decide +kernel
theorem dX9_copy_45 : decode cX9_copy 45 = .ok (.aload_n 1, 1) := by decide +kernel
theorem dX9_copy_46 : decode cX9_copy 46 = .ok (.getfield 22, 3) := by decide +kernel
theorem G372 : Cond.fieldLink "HookedCity$Town" 22 "HookedCity$Town" "strengths" "[I" ∈ GW := gw_i 372 (by decide +kernel) rfl
theorem dX9_copy_49 : decode cX9_copy 49 = .ok (.iconst 0, 1) := by decide +kernel
theorem dX9_copy_50 : decode cX9_copy 50 = .ok (.aload_n 0, 1) := by decide +kernel
theorem dX9_copy_51 : decode cX9_copy 51 = .ok (.getfield 22, 3) := by decide +kernel
theorem dX9_copy_54 : decode cX9_copy 54 = .ok (.iconst 0, 1) := by decide +kernel
theorem dX9_copy_55 : decode cX9_copy 55 = .ok (.bipush 9, 2) := by decide +kernel
theorem dX9_copy_57 : decode cX9_copy 57 = .ok (.invokestatic 75, 3) := by decide +kernel
theorem dX9_copy_60 : decode cX9_copy 60 = .ok (.aload_n 1, 1) := by decide +kernel
theorem dX9_copy_61 : decode cX9_copy 61 = .ok (.getfield 25, 3) := by decide +kernel
theorem dX9_copy_64 : decode cX9_copy 64 = .ok (.iconst 0, 1) := by decide +kernel
theorem dX9_copy_65 : decode cX9_copy 65 = .ok (.aload_n 0, 1) := by decide +kernel
theorem dX9_copy_66 : decode cX9_copy 66 = .ok (.getfield 25, 3) := by decide +kernel
theorem dX9_copy_69 : decode cX9_copy 69 = .ok (.iconst 0, 1) := by decide +kernel
theorem dX9_copy_70 : decode cX9_copy 70 = .ok (.bipush 9, 2) := by decide +kernel
theorem dX9_copy_72 : decode cX9_copy 72 = .ok (.invokestatic 75, 3) := by decide +kernel
theorem dX9_copy_75 : decode cX9_copy 75 = .ok (.aload_n 1, 1) := by decide +kernel
theorem dX9_copy_76 : decode cX9_copy 76 = .ok (.getfield 34, 3) := by decide +kernel
theorem G383 : Cond.fieldLink "HookedCity$Town" 34 "HookedCity$Town" "maidNames" "[J" ∈ GW := gw_i 383 (by decide +kernel) rfl
theorem dX9_copy_79 : decode cX9_copy 79 = .ok (.iconst 0, 1) := by decide +kernel
theorem dX9_copy_80 : decode cX9_copy 80 = .ok (.aload_n 0, 1) := by decide +kernel
theorem dX9_copy_81 : decode cX9_copy 81 = .ok (.getfield 34, 3) := by decide +kernel
theorem dX9_copy_84 : decode cX9_copy 84 = .ok (.iconst 0, 1) := by decide +kernel
theorem dX9_copy_85 : decode cX9_copy 85 = .ok (.iconst 3, 1) := by decide +kernel
theorem dX9_copy_86 : decode cX9_copy 86 = .ok (.invokestatic 75, 3) := by decide +kernel
theorem dX9_copy_89 : decode cX9_copy 89 = .ok (.aload_n 1, 1) := by decide +kernel
theorem dX9_copy_90 : decode cX9_copy 90 = .ok (.getfield 37, 3) := by decide +kernel
theorem G384 : Cond.fieldLink "HookedCity$Town" 37 "HookedCity$Town" "hooks" "[I" ∈ GW := gw_i 384 (by decide +kernel) rfl
theorem dX9_copy_93 : decode cX9_copy 93 = .ok (.iconst 0, 1) := by decide +kernel
theorem dX9_copy_94 : decode cX9_copy 94 = .ok (.aload_n 0, 1) := by decide +kernel
theorem dX9_copy_95 : decode cX9_copy 95 = .ok (.getfield 37, 3) := by decide +kernel
theorem dX9_copy_98 : decode cX9_copy 98 = .ok (.iconst 0, 1) := by decide +kernel
theorem dX9_copy_99 : decode cX9_copy 99 = .ok (.iconst 3, 1) := by decide +kernel
theorem dX9_copy_100 : decode cX9_copy 100 = .ok (.invokestatic 75, 3) := by decide +kernel
theorem dX9_copy_103 : decode cX9_copy 103 = .ok (.aload_n 0, 1) := by decide +kernel
theorem dX9_copy_104 : decode cX9_copy 104 = .ok (.aload_n 1, 1) := by decide +kernel
theorem dX9_copy_105 : decode cX9_copy 105 = .ok (.getfield 40, 3) := by decide +kernel
theorem dX9_copy_108 : decode cX9_copy 108 = .ok (.putfield 40, 3) := by decide +kernel
theorem dX9_copy_111 : decode cX9_copy 111 = .ok (.aload_n 0, 1) := by decide +kernel
theorem dX9_copy_112 : decode cX9_copy 112 = .ok (.aload_n 1, 1) := by decide +kernel
theorem dX9_copy_113 : decode cX9_copy 113 = .ok (.getfield 44, 3) := by decide +kernel
theorem dX9_copy_116 : decode cX9_copy 116 = .ok (.putfield 44, 3) := by decide +kernel
theorem dX9_copy_119 : decode cX9_copy 119 = .ok (.aload_n 0, 1) := by decide +kernel
theorem dX9_copy_120 : decode cX9_copy 120 = .ok (.aload_n 1, 1) := by decide +kernel
theorem dX9_copy_121 : decode cX9_copy 121 = .ok (.getfield 53, 3) := by decide +kernel
theorem dX9_copy_124 : decode cX9_copy 124 = .ok (.putfield 53, 3) := by decide +kernel
theorem dX9_copy_127 : decode cX9_copy 127 = .ok (.aload_n 0, 1) := by decide +kernel
theorem dX9_copy_128 : decode cX9_copy 128 = .ok (.aload_n 1, 1) := by decide +kernel
theorem dX9_copy_129 : decode cX9_copy 129 = .ok (.getfield 56, 3) := by decide +kernel
theorem dX9_copy_132 : decode cX9_copy 132 = .ok (.putfield 56, 3) := by decide +kernel
theorem dX9_copy_135 : decode cX9_copy 135 = .ok (.return_, 1) := by decide +kernel
theorem dX9_onceTold_0 : decode cX9_onceTold 0 = .ok (.iload_n 2, 1) := by decide +kernel
theorem dX9_onceTold_1 : decode cX9_onceTold 1 = .ok (.ifCond .eq 11, 3) := by decide +kernel
theorem dX9_onceTold_12 : decode cX9_onceTold 12 = .ok (.aload_n 1, 1) := by decide +kernel
theorem dX9_onceTold_13 : decode cX9_onceTold 13 = .ok (.invokevirtual 154, 3) := by decide +kernel
theorem G713 : Cond.methodLink "HookedCity$Town" 154 ⟨"HookedCity$Tape", "step", "()V"⟩ ∈ GW := gw_i 713 (by decide +kernel) rfl
theorem V_HookedCity_Town_154 : VL "HookedCity$Town" 154 yX8_step cX8_step 1 none 0 := ⟨G589, G713, G120, by decide +kernel, by decide +kernel, by decide +kernel⟩
theorem dX9_onceTold_16 : decode cX9_onceTold 16 = .ok (.aload_n 1, 1) := by decide +kernel
theorem dX9_onceTold_17 : decode cX9_onceTold 17 = .ok (.iload_n 3, 1) := by decide +kernel
theorem dX9_onceTold_18 : decode cX9_onceTold 18 = .ok (.iload 4, 2) := by decide +kernel
theorem dX9_onceTold_20 : decode cX9_onceTold 20 = .ok (.invokevirtual 168, 3) := by decide +kernel
theorem G728 : Cond.code ⟨"HookedCity$Tape", "numberAt", "(II)I"⟩ prog_10_method_17_code 3 (some .int) ∈ GW := gw_i 728 (by decide +kernel) rfl
theorem G725 : Cond.methodLink "HookedCity$Town" 168 ⟨"HookedCity$Tape", "numberAt", "(II)I"⟩ ∈ GW := gw_i 725 (by decide +kernel) rfl
theorem V_HookedCity_Town_168 : VL "HookedCity$Town" 168 yX8_numberAt cX8_numberAt 3 (some .int) 2 := ⟨G728, G725, G120, by decide +kernel, by decide +kernel, by decide +kernel⟩
theorem G726 : Cond.instanceMethod ⟨"HookedCity$Tape", "numberAt", "(II)I"⟩ ∈ GW := gw_i 726 (by decide +kernel) rfl
theorem G727 : Cond.selects "HookedCity$Tape" ⟨"HookedCity$Tape", "numberAt", "(II)I"⟩ ⟨"HookedCity$Tape", "numberAt", "(II)I"⟩ ∈ GW := gw_i 727 (by decide +kernel) rfl
theorem dX9_onceTold_23 : decode cX9_onceTold 23 = .ok (.istore 5, 2) := by decide +kernel
theorem dX9_onceTold_25 : decode cX9_onceTold 25 = .ok (.iload 5, 2) := by decide +kernel
theorem dX9_onceTold_27 : decode cX9_onceTold 27 = .ok (.iconst (-1), 1) := by decide +kernel
theorem dX9_onceTold_28 : decode cX9_onceTold 28 = .ok (.if_icmp .eq 7, 3) := by decide +kernel
theorem dX9_onceTold_35 : decode cX9_onceTold 35 = .ok (.iload 5, 2) := by decide +kernel
theorem dX9_onceTold_37 : decode cX9_onceTold 37 = .ok (.ireturn, 1) := by decide +kernel
theorem dX9_onceTold_31 : decode cX9_onceTold 31 = .ok (.aload_n 1, 1) := by decide +kernel
theorem dX9_onceTold_32 : decode cX9_onceTold 32 = .ok (.invokevirtual 154, 3) := by decide +kernel
theorem dX9_onceTold_4 : decode cX9_onceTold 4 = .ok (.aload_n 1, 1) := by decide +kernel
theorem dX9_onceTold_5 : decode cX9_onceTold 5 = .ok (.iconst 3, 1) := by decide +kernel
theorem dX9_onceTold_6 : decode cX9_onceTold 6 = .ok (.invokevirtual 150, 3) := by decide +kernel
theorem G709 : Cond.methodLink "HookedCity$Town" 150 ⟨"HookedCity$Tape", "fail", "(I)Z"⟩ ∈ GW := gw_i 709 (by decide +kernel) rfl
theorem V_HookedCity_Town_150 : VL "HookedCity$Town" 150 yX8_fail cX8_fail 2 (some .boolean) 1 := ⟨G712, G709, G120, by decide +kernel, by decide +kernel, by decide +kernel⟩
theorem dX9_onceTold_9 : decode cX9_onceTold 9 = .ok (.pop, 1) := by decide +kernel
theorem dX9_onceTold_10 : decode cX9_onceTold 10 = .ok (.iconst (-1), 1) := by decide +kernel
theorem dX9_onceTold_11 : decode cX9_onceTold 11 = .ok (.ireturn, 1) := by decide +kernel
theorem dX9_readJuly_0 : decode cX9_readJuly 0 = .ok (.aload_n 0, 1) := by decide +kernel
theorem dX9_readJuly_1 : decode cX9_readJuly 1 = .ok (.aload_n 0, 1) := by decide +kernel
theorem dX9_readJuly_2 : decode cX9_readJuly 2 = .ok (.aload_n 1, 1) := by decide +kernel
theorem dX9_readJuly_3 : decode cX9_readJuly 3 = .ok (.aload_n 0, 1) := by decide +kernel
theorem dX9_readJuly_4 : decode cX9_readJuly 4 = .ok (.getfield 66, 3) := by decide +kernel
theorem dX9_readJuly_7 : decode cX9_readJuly 7 = .ok (.iconst 0, 1) := by decide +kernel
theorem dX9_readJuly_8 : decode cX9_readJuly 8 = .ok (.bipush 60, 2) := by decide +kernel
theorem dX9_readJuly_10 : decode cX9_readJuly 10 = .ok (.invokevirtual 175, 3) := by decide +kernel
theorem G765 : Cond.code ⟨"HookedCity$Town", "onceTold", "(LHookedCity$Tape;ZII)I"⟩ prog_11_method_13_code 6 (some .int) ∈ GW := gw_i 765 (by decide +kernel) rfl
theorem G762 : Cond.methodLink "HookedCity$Town" 175 ⟨"HookedCity$Town", "onceTold", "(LHookedCity$Tape;ZII)I"⟩ ∈ GW := gw_i 762 (by decide +kernel) rfl
theorem V_HookedCity_Town_175 : VL "HookedCity$Town" 175 yX9_onceTold cX9_onceTold 6 (some .int) 4 := ⟨G765, G762, G128, by decide +kernel, by decide +kernel, by decide +kernel⟩
theorem G764 : Cond.instanceMethod ⟨"HookedCity$Town", "onceTold", "(LHookedCity$Tape;ZII)I"⟩ ∈ GW := gw_i 764 (by decide +kernel) rfl
theorem G12 : Cond.selects "HookedCity$Town" ⟨"HookedCity$Town", "onceTold", "(LHookedCity$Tape;ZII)I"⟩ ⟨"HookedCity$Town", "onceTold", "(LHookedCity$Tape;ZII)I"⟩ ∈ GW := gw_i 12 (by decide +kernel) rfl
theorem dX9_readJuly_13 : decode cX9_readJuly 13 = .ok (.putfield 56, 3) := by decide +kernel
theorem dX9_readJuly_16 : decode cX9_readJuly 16 = .ok (.aload_n 0, 1) := by decide +kernel
theorem dX9_readJuly_17 : decode cX9_readJuly 17 = .ok (.iconst 1, 1) := by decide +kernel
theorem dX9_readJuly_18 : decode cX9_readJuly 18 = .ok (.putfield 66, 3) := by decide +kernel
theorem dX9_readJuly_21 : decode cX9_readJuly 21 = .ok (.aload_n 0, 1) := by decide +kernel
theorem dX9_readJuly_22 : decode cX9_readJuly 22 = .ok (.getfield 56, 3) := by decide +kernel
theorem dX9_readJuly_25 : decode cX9_readJuly 25 = .ok (.iconst (-1), 1) := by decide +kernel
theorem dX9_readJuly_26 : decode cX9_readJuly 26 = .ok (.if_icmp .eq 7, 3) := by decide +kernel
theorem dX9_readJuly_33 : decode cX9_readJuly 33 = .ok (.iconst 0, 1) := by decide +kernel
theorem dX9_readJuly_34 : decode cX9_readJuly 34 = .ok (.ireturn, 1) := by decide +kernel
theorem dX9_readJuly_29 : decode cX9_readJuly 29 = .ok (.iconst 1, 1) := by decide +kernel
theorem dX9_readJuly_30 : decode cX9_readJuly 30 = .ok (.goto 4, 3) := by decide +kernel
theorem dX9_readYear_0 : decode cX9_readYear 0 = .ok (.aload_n 0, 1) := by decide +kernel
theorem dX9_readYear_1 : decode cX9_readYear 1 = .ok (.aload_n 0, 1) := by decide +kernel
theorem dX9_readYear_2 : decode cX9_readYear 2 = .ok (.aload_n 1, 1) := by decide +kernel
theorem dX9_readYear_3 : decode cX9_readYear 3 = .ok (.aload_n 0, 1) := by decide +kernel
theorem dX9_readYear_4 : decode cX9_readYear 4 = .ok (.getfield 63, 3) := by decide +kernel
theorem dX9_readYear_7 : decode cX9_readYear 7 = .ok (.iconst 2, 1) := by decide +kernel
theorem dX9_readYear_8 : decode cX9_readYear 8 = .ok (.bipush 60, 2) := by decide +kernel
theorem dX9_readYear_10 : decode cX9_readYear 10 = .ok (.invokevirtual 175, 3) := by decide +kernel
theorem dX9_readYear_13 : decode cX9_readYear 13 = .ok (.putfield 53, 3) := by decide +kernel
theorem dX9_readYear_16 : decode cX9_readYear 16 = .ok (.aload_n 0, 1) := by decide +kernel
theorem dX9_readYear_17 : decode cX9_readYear 17 = .ok (.iconst 1, 1) := by decide +kernel
theorem dX9_readYear_18 : decode cX9_readYear 18 = .ok (.putfield 63, 3) := by decide +kernel
theorem dX9_readYear_21 : decode cX9_readYear 21 = .ok (.aload_n 0, 1) := by decide +kernel
theorem dX9_readYear_22 : decode cX9_readYear 22 = .ok (.getfield 53, 3) := by decide +kernel
theorem dX9_readYear_25 : decode cX9_readYear 25 = .ok (.iconst (-1), 1) := by decide +kernel
theorem dX9_readYear_26 : decode cX9_readYear 26 = .ok (.if_icmp .eq 7, 3) := by decide +kernel
theorem dX9_readYear_33 : decode cX9_readYear 33 = .ok (.iconst 0, 1) := by decide +kernel
theorem dX9_readYear_34 : decode cX9_readYear 34 = .ok (.ireturn, 1) := by decide +kernel
theorem dX9_readYear_29 : decode cX9_readYear 29 = .ok (.iconst 1, 1) := by decide +kernel
theorem dX9_readYear_30 : decode cX9_readYear 30 = .ok (.goto 4, 3) := by decide +kernel
theorem dX9_readSpare_0 : decode cX9_readSpare 0 = .ok (.aload_n 0, 1) := by decide +kernel
theorem dX9_readSpare_1 : decode cX9_readSpare 1 = .ok (.aload_n 0, 1) := by decide +kernel
theorem dX9_readSpare_2 : decode cX9_readSpare 2 = .ok (.aload_n 1, 1) := by decide +kernel
theorem dX9_readSpare_3 : decode cX9_readSpare 3 = .ok (.aload_n 0, 1) := by decide +kernel
theorem dX9_readSpare_4 : decode cX9_readSpare 4 = .ok (.getfield 59, 3) := by decide +kernel
theorem dX9_readSpare_7 : decode cX9_readSpare 7 = .ok (.iconst 0, 1) := by decide +kernel
theorem dX9_readSpare_8 : decode cX9_readSpare 8 = .ok (.bipush 20, 2) := by decide +kernel
theorem dX9_readSpare_10 : decode cX9_readSpare 10 = .ok (.invokevirtual 175, 3) := by decide +kernel
theorem dX9_readSpare_13 : decode cX9_readSpare 13 = .ok (.putfield 50, 3) := by decide +kernel
theorem dX9_readSpare_16 : decode cX9_readSpare 16 = .ok (.aload_n 0, 1) := by decide +kernel
theorem dX9_readSpare_17 : decode cX9_readSpare 17 = .ok (.iconst 1, 1) := by decide +kernel
theorem dX9_readSpare_18 : decode cX9_readSpare 18 = .ok (.putfield 59, 3) := by decide +kernel
theorem dX9_readSpare_21 : decode cX9_readSpare 21 = .ok (.aload_n 0, 1) := by decide +kernel
theorem dX9_readSpare_22 : decode cX9_readSpare 22 = .ok (.getfield 50, 3) := by decide +kernel
theorem dX9_readSpare_25 : decode cX9_readSpare 25 = .ok (.iconst (-1), 1) := by decide +kernel
theorem dX9_readSpare_26 : decode cX9_readSpare 26 = .ok (.if_icmp .eq 7, 3) := by decide +kernel
theorem dX9_readSpare_33 : decode cX9_readSpare 33 = .ok (.iconst 0, 1) := by decide +kernel
theorem dX9_readSpare_34 : decode cX9_readSpare 34 = .ok (.ireturn, 1) := by decide +kernel
theorem dX9_readSpare_29 : decode cX9_readSpare 29 = .ok (.iconst 1, 1) := by decide +kernel
theorem dX9_readSpare_30 : decode cX9_readSpare 30 = .ok (.goto 4, 3) := by decide +kernel
theorem dX9_placeOf_0 : decode cX9_placeOf 0 = .ok (.iconst 0, 1) := by decide +kernel
theorem dX9_placeOf_1 : decode cX9_placeOf 1 = .ok (.istore 4, 2) := by decide +kernel
theorem dX9_placeOf_3 : decode cX9_placeOf 3 = .ok (.iload 4, 2) := by decide +kernel
theorem dX9_placeOf_5 : decode cX9_placeOf 5 = .ok (.iload_n 1, 1) := by decide +kernel
theorem dX9_placeOf_6 : decode cX9_placeOf 6 = .ok (.if_icmp .ge 28, 3) := by decide +kernel
theorem dX9_placeOf_34 : decode cX9_placeOf 34 = .ok (.iconst (-1), 1) := by decide +kernel
theorem dX9_placeOf_35 : decode cX9_placeOf 35 = .ok (.ireturn, 1) := by decide +kernel
theorem dX9_placeOf_9 : decode cX9_placeOf 9 = .ok (.iload 4, 2) := by decide +kernel
theorem dX9_placeOf_11 : decode cX9_placeOf 11 = .ok (.aload_n 0, 1) := by decide +kernel
theorem dX9_placeOf_12 : decode cX9_placeOf 12 = .ok (.arraylength, 1) := by decide +kernel
theorem dX9_placeOf_13 : decode cX9_placeOf 13 = .ok (.if_icmp .ge 21, 3) := by decide +kernel
theorem dX9_placeOf_16 : decode cX9_placeOf 16 = .ok (.aload_n 0, 1) := by decide +kernel
theorem dX9_placeOf_17 : decode cX9_placeOf 17 = .ok (.iload 4, 2) := by decide +kernel
theorem dX9_placeOf_19 : decode cX9_placeOf 19 = .ok (.laload, 1) := by decide +kernel
theorem dX9_placeOf_20 : decode cX9_placeOf 20 = .ok (.lload_n 2, 1) := by decide +kernel
theorem dX9_placeOf_21 : decode cX9_placeOf 21 = .ok (.lcmp, 1) := by decide +kernel
theorem dX9_placeOf_22 : decode cX9_placeOf 22 = .ok (.ifCond .ne 6, 3) := by decide +kernel
theorem dX9_placeOf_28 : decode cX9_placeOf 28 = .ok (.iinc 4 1, 3) := by decide +kernel
theorem dX9_placeOf_31 : decode cX9_placeOf 31 = .ok (.goto (-28), 3) := by decide +kernel
theorem dX9_placeOf_25 : decode cX9_placeOf 25 = .ok (.iload 4, 2) := by decide +kernel
theorem dX9_placeOf_27 : decode cX9_placeOf 27 = .ok (.ireturn, 1) := by decide +kernel
theorem dX9_nameAt_0 : decode cX9_nameAt 0 = .ok (.aload_n 1, 1) := by decide +kernel
theorem dX9_nameAt_1 : decode cX9_nameAt 1 = .ok (.getfield 179, 3) := by decide +kernel
theorem N169 : Cond.fieldLinkNest "HookedCity$Town" 179 "HookedCity$Tape" "token" "I" "HookedCity" ∈ lw_tbl := List.mem_of_getElem? (i := 169) (by decide +kernel)
theorem dX9_nameAt_4 : decode cX9_nameAt 4 = .ok (.iconst 3, 1) := by decide +kernel
theorem dX9_nameAt_5 : decode cX9_nameAt 5 = .ok (.if_icmp .eq 11, 3) := by decide +kernel
theorem dX9_nameAt_16 : decode cX9_nameAt 16 = .ok (.aload_n 2, 1) := by decide +kernel
theorem dX9_nameAt_17 : decode cX9_nameAt 17 = .ok (.iload_n 3, 1) := by decide +kernel
theorem dX9_nameAt_18 : decode cX9_nameAt 18 = .ok (.aload_n 1, 1) := by decide +kernel
theorem dX9_nameAt_19 : decode cX9_nameAt 19 = .ok (.getfield 160, 3) := by decide +kernel
theorem N175 : Cond.fieldLinkNest "HookedCity$Town" 160 "HookedCity$Tape" "name" "J" "HookedCity" ∈ lw_tbl := List.mem_of_getElem? (i := 175) (by decide +kernel)
theorem dX9_nameAt_22 : decode cX9_nameAt 22 = .ok (.invokestatic 182, 3) := by decide +kernel
theorem G720 : Cond.code ⟨"HookedCity$Town", "placeOf", "([JIJ)I"⟩ prog_11_method_19_code 5 (some .int) ∈ GW := gw_i 720 (by decide +kernel) rfl
theorem G718 : Cond.methodLink "HookedCity$Town" 182 ⟨"HookedCity$Town", "placeOf", "([JIJ)I"⟩ ∈ GW := gw_i 718 (by decide +kernel) rfl
theorem V_HookedCity_Town_182 : VL "HookedCity$Town" 182 yX9_placeOf cX9_placeOf 5 (some .int) 3 := ⟨G720, G718, G128, by decide +kernel, by decide +kernel, by decide +kernel⟩
theorem G719 : Cond.static ⟨"HookedCity$Town", "placeOf", "([JIJ)I"⟩ ∈ GW := gw_i 719 (by decide +kernel) rfl
theorem dX9_nameAt_25 : decode cX9_nameAt 25 = .ok (.istore 4, 2) := by decide +kernel
theorem dX9_nameAt_27 : decode cX9_nameAt 27 = .ok (.iload 4, 2) := by decide +kernel
theorem dX9_nameAt_29 : decode cX9_nameAt 29 = .ok (.iconst (-1), 1) := by decide +kernel
theorem dX9_nameAt_30 : decode cX9_nameAt 30 = .ok (.if_icmp .ne 9, 3) := by decide +kernel
theorem dX9_nameAt_39 : decode cX9_nameAt 39 = .ok (.iload 4, 2) := by decide +kernel
theorem dX9_nameAt_41 : decode cX9_nameAt 41 = .ok (.ireturn, 1) := by decide +kernel
theorem dX9_nameAt_33 : decode cX9_nameAt 33 = .ok (.aload_n 1, 1) := by decide +kernel
theorem dX9_nameAt_34 : decode cX9_nameAt 34 = .ok (.iconst 3, 1) := by decide +kernel
theorem dX9_nameAt_35 : decode cX9_nameAt 35 = .ok (.invokevirtual 150, 3) := by decide +kernel
theorem dX9_nameAt_38 : decode cX9_nameAt 38 = .ok (.pop, 1) := by decide +kernel
theorem dX9_nameAt_8 : decode cX9_nameAt 8 = .ok (.aload_n 1, 1) := by decide +kernel
theorem dX9_nameAt_9 : decode cX9_nameAt 9 = .ok (.iconst 1, 1) := by decide +kernel
theorem dX9_nameAt_10 : decode cX9_nameAt 10 = .ok (.invokevirtual 150, 3) := by decide +kernel
theorem dX9_nameAt_13 : decode cX9_nameAt 13 = .ok (.pop, 1) := by decide +kernel
theorem dX9_nameAt_14 : decode cX9_nameAt 14 = .ok (.iconst (-1), 1) := by decide +kernel
theorem dX9_nameAt_15 : decode cX9_nameAt 15 = .ok (.ireturn, 1) := by decide +kernel
theorem dX9_personAt_0 : decode cX9_personAt 0 = .ok (.aload_n 0, 1) := by decide +kernel
theorem dX9_personAt_1 : decode cX9_personAt 1 = .ok (.aload_n 1, 1) := by decide +kernel
theorem dX9_personAt_2 : decode cX9_personAt 2 = .ok (.aload_n 0, 1) := by decide +kernel
theorem dX9_personAt_3 : decode cX9_personAt 3 = .ok (.getfield 9, 3) := by decide +kernel
theorem dX9_personAt_6 : decode cX9_personAt 6 = .ok (.aload_n 0, 1) := by decide +kernel
theorem dX9_personAt_7 : decode cX9_personAt 7 = .ok (.getfield 40, 3) := by decide +kernel
theorem dX9_personAt_10 : decode cX9_personAt 10 = .ok (.invokevirtual 189, 3) := by decide +kernel
theorem G749 : Cond.code ⟨"HookedCity$Town", "nameAt", "(LHookedCity$Tape;[JI)I"⟩ prog_11_method_18_code 5 (some .int) ∈ GW := gw_i 749 (by decide +kernel) rfl
theorem G746 : Cond.methodLink "HookedCity$Town" 189 ⟨"HookedCity$Town", "nameAt", "(LHookedCity$Tape;[JI)I"⟩ ∈ GW := gw_i 746 (by decide +kernel) rfl
theorem V_HookedCity_Town_189 : VL "HookedCity$Town" 189 yX9_nameAt cX9_nameAt 5 (some .int) 3 := ⟨G749, G746, G128, by decide +kernel, by decide +kernel, by decide +kernel⟩
theorem G748 : Cond.instanceMethod ⟨"HookedCity$Town", "nameAt", "(LHookedCity$Tape;[JI)I"⟩ ∈ GW := gw_i 748 (by decide +kernel) rfl
theorem G9 : Cond.selects "HookedCity$Town" ⟨"HookedCity$Town", "nameAt", "(LHookedCity$Tape;[JI)I"⟩ ⟨"HookedCity$Town", "nameAt", "(LHookedCity$Tape;[JI)I"⟩ ∈ GW := gw_i 9 (by decide +kernel) rfl
theorem dX9_personAt_13 : decode cX9_personAt 13 = .ok (.ireturn, 1) := by decide +kernel
theorem dX9_readDone_0 : decode cX9_readDone 0 = .ok (.aload_n 1, 1) := by decide +kernel
theorem dX9_readDone_1 : decode cX9_readDone 1 = .ok (.invokevirtual 154, 3) := by decide +kernel
theorem dX9_readDone_4 : decode cX9_readDone 4 = .ok (.aload_n 0, 1) := by decide +kernel
theorem dX9_readDone_5 : decode cX9_readDone 5 = .ok (.aload_n 1, 1) := by decide +kernel
theorem dX9_readDone_6 : decode cX9_readDone 6 = .ok (.invokevirtual 172, 3) := by decide +kernel
theorem G745 : Cond.code ⟨"HookedCity$Town", "personAt", "(LHookedCity$Tape;)I"⟩ prog_11_method_16_code 2 (some .int) ∈ GW := gw_i 745 (by decide +kernel) rfl
theorem G742 : Cond.methodLink "HookedCity$Town" 172 ⟨"HookedCity$Town", "personAt", "(LHookedCity$Tape;)I"⟩ ∈ GW := gw_i 742 (by decide +kernel) rfl
theorem V_HookedCity_Town_172 : VL "HookedCity$Town" 172 yX9_personAt cX9_personAt 2 (some .int) 1 := ⟨G745, G742, G128, by decide +kernel, by decide +kernel, by decide +kernel⟩
theorem G743 : Cond.instanceMethod ⟨"HookedCity$Town", "personAt", "(LHookedCity$Tape;)I"⟩ ∈ GW := gw_i 743 (by decide +kernel) rfl
theorem G744 : Cond.selects "HookedCity$Town" ⟨"HookedCity$Town", "personAt", "(LHookedCity$Tape;)I"⟩ ⟨"HookedCity$Town", "personAt", "(LHookedCity$Tape;)I"⟩ ∈ GW := gw_i 744 (by decide +kernel) rfl
theorem dX9_readDone_9 : decode cX9_readDone 9 = .ok (.istore_n 2, 1) := by decide +kernel
theorem dX9_readDone_10 : decode cX9_readDone 10 = .ok (.iload_n 2, 1) := by decide +kernel
theorem dX9_readDone_11 : decode cX9_readDone 11 = .ok (.iconst (-1), 1) := by decide +kernel
theorem dX9_readDone_12 : decode cX9_readDone 12 = .ok (.if_icmp .ne 5, 3) := by decide +kernel
theorem dX9_readDone_17 : decode cX9_readDone 17 = .ok (.aload_n 0, 1) := by decide +kernel
theorem dX9_readDone_18 : decode cX9_readDone 18 = .ok (.getfield 28, 3) := by decide +kernel
theorem dX9_readDone_21 : decode cX9_readDone 21 = .ok (.iload_n 2, 1) := by decide +kernel
theorem dX9_readDone_22 : decode cX9_readDone 22 = .ok (.iaload, 1) := by decide +kernel
theorem dX9_readDone_23 : decode cX9_readDone 23 = .ok (.iconst (-1), 1) := by decide +kernel
theorem dX9_readDone_24 : decode cX9_readDone 24 = .ok (.if_icmp .eq 9, 3) := by decide +kernel
theorem dX9_readDone_33 : decode cX9_readDone 33 = .ok (.aload_n 1, 1) := by decide +kernel
theorem dX9_readDone_34 : decode cX9_readDone 34 = .ok (.invokevirtual 154, 3) := by decide +kernel
theorem dX9_readDone_37 : decode cX9_readDone 37 = .ok (.aload_n 0, 1) := by decide +kernel
theorem dX9_readDone_38 : decode cX9_readDone 38 = .ok (.aload_n 1, 1) := by decide +kernel
theorem dX9_readDone_39 : decode cX9_readDone 39 = .ok (.invokevirtual 172, 3) := by decide +kernel
theorem dX9_readDone_42 : decode cX9_readDone 42 = .ok (.istore_n 3, 1) := by decide +kernel
theorem dX9_readDone_43 : decode cX9_readDone 43 = .ok (.iload_n 3, 1) := by decide +kernel
theorem dX9_readDone_44 : decode cX9_readDone 44 = .ok (.iconst (-1), 1) := by decide +kernel
theorem dX9_readDone_45 : decode cX9_readDone 45 = .ok (.if_icmp .ne 5, 3) := by decide +kernel
theorem dX9_readDone_50 : decode cX9_readDone 50 = .ok (.iload_n 2, 1) := by decide +kernel
theorem dX9_readDone_51 : decode cX9_readDone 51 = .ok (.iload_n 3, 1) := by decide +kernel
theorem dX9_readDone_52 : decode cX9_readDone 52 = .ok (.if_icmp .eq 28, 3) := by decide +kernel
theorem dX9_readDone_80 : decode cX9_readDone 80 = .ok (.aload_n 1, 1) := by decide +kernel
theorem dX9_readDone_81 : decode cX9_readDone 81 = .ok (.iconst 3, 1) := by decide +kernel
theorem dX9_readDone_82 : decode cX9_readDone 82 = .ok (.invokevirtual 150, 3) := by decide +kernel
theorem dX9_readDone_85 : decode cX9_readDone 85 = .ok (.ireturn, 1) := by decide +kernel
theorem dX9_readDone_55 : decode cX9_readDone 55 = .ok (.aload_n 0, 1) := by decide +kernel
theorem dX9_readDone_56 : decode cX9_readDone 56 = .ok (.getfield 19, 3) := by decide +kernel
theorem dX9_readDone_59 : decode cX9_readDone 59 = .ok (.iload_n 2, 1) := by decide +kernel
theorem dX9_readDone_60 : decode cX9_readDone 60 = .ok (.iaload, 1) := by decide +kernel
theorem dX9_readDone_61 : decode cX9_readDone 61 = .ok (.aload_n 0, 1) := by decide +kernel
theorem dX9_readDone_62 : decode cX9_readDone 62 = .ok (.getfield 15, 3) := by decide +kernel
theorem dX9_readDone_65 : decode cX9_readDone 65 = .ok (.iload_n 3, 1) := by decide +kernel
theorem dX9_readDone_66 : decode cX9_readDone 66 = .ok (.iaload, 1) := by decide +kernel
theorem dX9_readDone_67 : decode cX9_readDone 67 = .ok (.if_icmp .ne 13, 3) := by decide +kernel
theorem dX9_readDone_70 : decode cX9_readDone 70 = .ok (.aload_n 0, 1) := by decide +kernel
theorem dX9_readDone_71 : decode cX9_readDone 71 = .ok (.getfield 31, 3) := by decide +kernel
theorem dX9_readDone_74 : decode cX9_readDone 74 = .ok (.iload_n 3, 1) := by decide +kernel
theorem dX9_readDone_75 : decode cX9_readDone 75 = .ok (.iaload, 1) := by decide +kernel
theorem dX9_readDone_76 : decode cX9_readDone 76 = .ok (.iconst (-1), 1) := by decide +kernel
theorem dX9_readDone_77 : decode cX9_readDone 77 = .ok (.if_icmp .eq 9, 3) := by decide +kernel
theorem dX9_readDone_86 : decode cX9_readDone 86 = .ok (.aload_n 1, 1) := by decide +kernel
theorem dX9_readDone_87 : decode cX9_readDone 87 = .ok (.invokevirtual 154, 3) := by decide +kernel
theorem dX9_readDone_90 : decode cX9_readDone 90 = .ok (.aload_n 0, 1) := by decide +kernel
theorem dX9_readDone_91 : decode cX9_readDone 91 = .ok (.getfield 28, 3) := by decide +kernel
theorem dX9_readDone_94 : decode cX9_readDone 94 = .ok (.iload_n 2, 1) := by decide +kernel
theorem dX9_readDone_95 : decode cX9_readDone 95 = .ok (.iload_n 3, 1) := by decide +kernel
theorem dX9_readDone_96 : decode cX9_readDone 96 = .ok (.iastore, 1) := by decide +kernel
theorem dX9_readDone_97 : decode cX9_readDone 97 = .ok (.aload_n 0, 1) := by decide +kernel
theorem dX9_readDone_98 : decode cX9_readDone 98 = .ok (.getfield 31, 3) := by decide +kernel
theorem dX9_readDone_101 : decode cX9_readDone 101 = .ok (.iload_n 3, 1) := by decide +kernel
theorem dX9_readDone_102 : decode cX9_readDone 102 = .ok (.iload_n 2, 1) := by decide +kernel
theorem dX9_readDone_103 : decode cX9_readDone 103 = .ok (.iastore, 1) := by decide +kernel
theorem dX9_readDone_104 : decode cX9_readDone 104 = .ok (.iconst 1, 1) := by decide +kernel
theorem dX9_readDone_105 : decode cX9_readDone 105 = .ok (.ireturn, 1) := by decide +kernel
theorem dX9_readDone_48 : decode cX9_readDone 48 = .ok (.iconst 0, 1) := by decide +kernel
theorem dX9_readDone_49 : decode cX9_readDone 49 = .ok (.ireturn, 1) := by decide +kernel
theorem dX9_readDone_27 : decode cX9_readDone 27 = .ok (.aload_n 1, 1) := by decide +kernel
theorem dX9_readDone_28 : decode cX9_readDone 28 = .ok (.iconst 3, 1) := by decide +kernel
theorem dX9_readDone_29 : decode cX9_readDone 29 = .ok (.invokevirtual 150, 3) := by decide +kernel
theorem dX9_readDone_32 : decode cX9_readDone 32 = .ok (.ireturn, 1) := by decide +kernel
theorem dX9_readDone_15 : decode cX9_readDone 15 = .ok (.iconst 0, 1) := by decide +kernel
theorem dX9_readDone_16 : decode cX9_readDone 16 = .ok (.ireturn, 1) := by decide +kernel
theorem dX9_readStreet_0 : decode cX9_readStreet 0 = .ok (.aload_n 1, 1) := by decide +kernel
theorem dX9_readStreet_1 : decode cX9_readStreet 1 = .ok (.invokevirtual 154, 3) := by decide +kernel
theorem dX9_readStreet_4 : decode cX9_readStreet 4 = .ok (.aload_n 0, 1) := by decide +kernel
theorem dX9_readStreet_5 : decode cX9_readStreet 5 = .ok (.aload_n 1, 1) := by decide +kernel
theorem dX9_readStreet_6 : decode cX9_readStreet 6 = .ok (.invokevirtual 172, 3) := by decide +kernel
theorem dX9_readStreet_9 : decode cX9_readStreet 9 = .ok (.istore_n 2, 1) := by decide +kernel
theorem dX9_readStreet_10 : decode cX9_readStreet 10 = .ok (.iload_n 2, 1) := by decide +kernel
theorem dX9_readStreet_11 : decode cX9_readStreet 11 = .ok (.iconst (-1), 1) := by decide +kernel
theorem dX9_readStreet_12 : decode cX9_readStreet 12 = .ok (.if_icmp .ne 5, 3) := by decide +kernel
theorem dX9_readStreet_17 : decode cX9_readStreet 17 = .ok (.aload_n 1, 1) := by decide +kernel
theorem dX9_readStreet_18 : decode cX9_readStreet 18 = .ok (.invokevirtual 154, 3) := by decide +kernel
theorem dX9_readStreet_21 : decode cX9_readStreet 21 = .ok (.aload_n 0, 1) := by decide +kernel
theorem dX9_readStreet_22 : decode cX9_readStreet 22 = .ok (.aload_n 1, 1) := by decide +kernel
theorem dX9_readStreet_23 : decode cX9_readStreet 23 = .ok (.invokevirtual 172, 3) := by decide +kernel
theorem dX9_readStreet_26 : decode cX9_readStreet 26 = .ok (.istore_n 3, 1) := by decide +kernel
theorem dX9_readStreet_27 : decode cX9_readStreet 27 = .ok (.iload_n 3, 1) := by decide +kernel
theorem dX9_readStreet_28 : decode cX9_readStreet 28 = .ok (.iconst (-1), 1) := by decide +kernel
theorem dX9_readStreet_29 : decode cX9_readStreet 29 = .ok (.if_icmp .ne 5, 3) := by decide +kernel
theorem dX9_readStreet_34 : decode cX9_readStreet 34 = .ok (.iload_n 2, 1) := by decide +kernel
theorem dX9_readStreet_35 : decode cX9_readStreet 35 = .ok (.iload_n 3, 1) := by decide +kernel
theorem dX9_readStreet_36 : decode cX9_readStreet 36 = .ok (.if_icmp .eq 16, 3) := by decide +kernel
theorem dX9_readStreet_52 : decode cX9_readStreet 52 = .ok (.aload_n 1, 1) := by decide +kernel
theorem dX9_readStreet_53 : decode cX9_readStreet 53 = .ok (.iconst 3, 1) := by decide +kernel
theorem dX9_readStreet_54 : decode cX9_readStreet 54 = .ok (.invokevirtual 150, 3) := by decide +kernel
theorem dX9_readStreet_57 : decode cX9_readStreet 57 = .ok (.ireturn, 1) := by decide +kernel
theorem dX9_readStreet_39 : decode cX9_readStreet 39 = .ok (.aload_n 0, 1) := by decide +kernel
theorem dX9_readStreet_40 : decode cX9_readStreet 40 = .ok (.getfield 25, 3) := by decide +kernel
theorem dX9_readStreet_43 : decode cX9_readStreet 43 = .ok (.iload_n 2, 1) := by decide +kernel
theorem dX9_readStreet_44 : decode cX9_readStreet 44 = .ok (.iaload, 1) := by decide +kernel
theorem dX9_readStreet_45 : decode cX9_readStreet 45 = .ok (.iload_n 3, 1) := by decide +kernel
theorem dX9_readStreet_46 : decode cX9_readStreet 46 = .ok (.ishr, 1) := by decide +kernel
theorem dX9_readStreet_47 : decode cX9_readStreet 47 = .ok (.iconst 1, 1) := by decide +kernel
theorem dX9_readStreet_48 : decode cX9_readStreet 48 = .ok (.iand, 1) := by decide +kernel
theorem dX9_readStreet_49 : decode cX9_readStreet 49 = .ok (.ifCond .eq 9, 3) := by decide +kernel
theorem dX9_readStreet_58 : decode cX9_readStreet 58 = .ok (.aload_n 1, 1) := by decide +kernel
theorem dX9_readStreet_59 : decode cX9_readStreet 59 = .ok (.invokevirtual 154, 3) := by decide +kernel
theorem dX9_readStreet_62 : decode cX9_readStreet 62 = .ok (.aload_n 0, 1) := by decide +kernel
theorem dX9_readStreet_63 : decode cX9_readStreet 63 = .ok (.getfield 25, 3) := by decide +kernel
theorem dX9_readStreet_66 : decode cX9_readStreet 66 = .ok (.iload_n 2, 1) := by decide +kernel
theorem dX9_readStreet_67 : decode cX9_readStreet 67 = .ok (.dup2, 1) := by decide +kernel
theorem dX9_readStreet_68 : decode cX9_readStreet 68 = .ok (.iaload, 1) := by decide +kernel
theorem dX9_readStreet_69 : decode cX9_readStreet 69 = .ok (.iconst 1, 1) := by decide +kernel
theorem dX9_readStreet_70 : decode cX9_readStreet 70 = .ok (.iload_n 3, 1) := by decide +kernel
theorem dX9_readStreet_71 : decode cX9_readStreet 71 = .ok (.ishl, 1) := by decide +kernel
theorem dX9_readStreet_72 : decode cX9_readStreet 72 = .ok (.ior, 1) := by decide +kernel
theorem dX9_readStreet_73 : decode cX9_readStreet 73 = .ok (.iastore, 1) := by decide +kernel
theorem dX9_readStreet_74 : decode cX9_readStreet 74 = .ok (.aload_n 0, 1) := by decide +kernel
theorem dX9_readStreet_75 : decode cX9_readStreet 75 = .ok (.getfield 25, 3) := by decide +kernel
theorem dX9_readStreet_78 : decode cX9_readStreet 78 = .ok (.iload_n 3, 1) := by decide +kernel
theorem dX9_readStreet_79 : decode cX9_readStreet 79 = .ok (.dup2, 1) := by decide +kernel
theorem dX9_readStreet_80 : decode cX9_readStreet 80 = .ok (.iaload, 1) := by decide +kernel
theorem dX9_readStreet_81 : decode cX9_readStreet 81 = .ok (.iconst 1, 1) := by decide +kernel
theorem dX9_readStreet_82 : decode cX9_readStreet 82 = .ok (.iload_n 2, 1) := by decide +kernel
theorem dX9_readStreet_83 : decode cX9_readStreet 83 = .ok (.ishl, 1) := by decide +kernel
theorem dX9_readStreet_84 : decode cX9_readStreet 84 = .ok (.ior, 1) := by decide +kernel
theorem dX9_readStreet_85 : decode cX9_readStreet 85 = .ok (.iastore, 1) := by decide +kernel
theorem dX9_readStreet_86 : decode cX9_readStreet 86 = .ok (.iconst 1, 1) := by decide +kernel
theorem dX9_readStreet_87 : decode cX9_readStreet 87 = .ok (.ireturn, 1) := by decide +kernel
theorem dX9_readStreet_32 : decode cX9_readStreet 32 = .ok (.iconst 0, 1) := by decide +kernel
theorem dX9_readStreet_33 : decode cX9_readStreet 33 = .ok (.ireturn, 1) := by decide +kernel
theorem dX9_readStreet_15 : decode cX9_readStreet 15 = .ok (.iconst 0, 1) := by decide +kernel
theorem dX9_readStreet_16 : decode cX9_readStreet 16 = .ok (.ireturn, 1) := by decide +kernel
theorem dX9_newNameAt_0 : decode cX9_newNameAt 0 = .ok (.aload_n 1, 1) := by decide +kernel
theorem dX9_newNameAt_1 : decode cX9_newNameAt 1 = .ok (.getfield 179, 3) := by decide +kernel
theorem dX9_newNameAt_4 : decode cX9_newNameAt 4 = .ok (.iconst 3, 1) := by decide +kernel
theorem dX9_newNameAt_5 : decode cX9_newNameAt 5 = .ok (.if_icmp .eq 9, 3) := by decide +kernel
theorem dX9_newNameAt_14 : decode cX9_newNameAt 14 = .ok (.aload_n 0, 1) := by decide +kernel
theorem dX9_newNameAt_15 : decode cX9_newNameAt 15 = .ok (.getfield 9, 3) := by decide +kernel
theorem dX9_newNameAt_18 : decode cX9_newNameAt 18 = .ok (.aload_n 0, 1) := by decide +kernel
theorem dX9_newNameAt_19 : decode cX9_newNameAt 19 = .ok (.getfield 40, 3) := by decide +kernel
theorem dX9_newNameAt_22 : decode cX9_newNameAt 22 = .ok (.aload_n 1, 1) := by decide +kernel
theorem dX9_newNameAt_23 : decode cX9_newNameAt 23 = .ok (.getfield 160, 3) := by decide +kernel
theorem dX9_newNameAt_26 : decode cX9_newNameAt 26 = .ok (.invokestatic 182, 3) := by decide +kernel
theorem dX9_newNameAt_29 : decode cX9_newNameAt 29 = .ok (.iconst (-1), 1) := by decide +kernel
theorem dX9_newNameAt_30 : decode cX9_newNameAt 30 = .ok (.if_icmp .ne 22, 3) := by decide +kernel
theorem dX9_newNameAt_52 : decode cX9_newNameAt 52 = .ok (.aload_n 1, 1) := by decide +kernel
theorem dX9_newNameAt_53 : decode cX9_newNameAt 53 = .ok (.iconst 3, 1) := by decide +kernel
theorem dX9_newNameAt_54 : decode cX9_newNameAt 54 = .ok (.invokevirtual 150, 3) := by decide +kernel
theorem dX9_newNameAt_57 : decode cX9_newNameAt 57 = .ok (.ireturn, 1) := by decide +kernel
theorem dX9_newNameAt_33 : decode cX9_newNameAt 33 = .ok (.aload_n 0, 1) := by decide +kernel
theorem dX9_newNameAt_34 : decode cX9_newNameAt 34 = .ok (.getfield 34, 3) := by decide +kernel
theorem dX9_newNameAt_37 : decode cX9_newNameAt 37 = .ok (.aload_n 0, 1) := by decide +kernel
theorem dX9_newNameAt_38 : decode cX9_newNameAt 38 = .ok (.getfield 44, 3) := by decide +kernel
theorem dX9_newNameAt_41 : decode cX9_newNameAt 41 = .ok (.aload_n 1, 1) := by decide +kernel
theorem dX9_newNameAt_42 : decode cX9_newNameAt 42 = .ok (.getfield 160, 3) := by decide +kernel
theorem dX9_newNameAt_45 : decode cX9_newNameAt 45 = .ok (.invokestatic 182, 3) := by decide +kernel
theorem dX9_newNameAt_48 : decode cX9_newNameAt 48 = .ok (.iconst (-1), 1) := by decide +kernel
theorem dX9_newNameAt_49 : decode cX9_newNameAt 49 = .ok (.if_icmp .eq 9, 3) := by decide +kernel
theorem dX9_newNameAt_58 : decode cX9_newNameAt 58 = .ok (.iconst 1, 1) := by decide +kernel
theorem dX9_newNameAt_59 : decode cX9_newNameAt 59 = .ok (.ireturn, 1) := by decide +kernel
theorem dX9_newNameAt_8 : decode cX9_newNameAt 8 = .ok (.aload_n 1, 1) := by decide +kernel
theorem dX9_newNameAt_9 : decode cX9_newNameAt 9 = .ok (.iconst 1, 1) := by decide +kernel
theorem dX9_newNameAt_10 : decode cX9_newNameAt 10 = .ok (.invokevirtual 150, 3) := by decide +kernel
theorem dX9_newNameAt_13 : decode cX9_newNameAt 13 = .ok (.ireturn, 1) := by decide +kernel
theorem dX9_readMaid_0 : decode cX9_readMaid 0 = .ok (.aload_n 0, 1) := by decide +kernel
theorem dX9_readMaid_1 : decode cX9_readMaid 1 = .ok (.getfield 44, 3) := by decide +kernel
theorem dX9_readMaid_4 : decode cX9_readMaid 4 = .ok (.iconst 3, 1) := by decide +kernel
theorem dX9_readMaid_5 : decode cX9_readMaid 5 = .ok (.if_icmp .lt 9, 3) := by decide +kernel
theorem dX9_readMaid_14 : decode cX9_readMaid 14 = .ok (.aload_n 1, 1) := by decide +kernel
theorem dX9_readMaid_15 : decode cX9_readMaid 15 = .ok (.invokevirtual 154, 3) := by decide +kernel
theorem dX9_readMaid_18 : decode cX9_readMaid 18 = .ok (.aload_n 0, 1) := by decide +kernel
theorem dX9_readMaid_19 : decode cX9_readMaid 19 = .ok (.aload_n 1, 1) := by decide +kernel
theorem dX9_readMaid_20 : decode cX9_readMaid 20 = .ok (.invokevirtual 157, 3) := by decide +kernel
theorem G717 : Cond.code ⟨"HookedCity$Town", "newNameAt", "(LHookedCity$Tape;)Z"⟩ prog_11_method_14_code 2 (some .boolean) ∈ GW := gw_i 717 (by decide +kernel) rfl
theorem G714 : Cond.methodLink "HookedCity$Town" 157 ⟨"HookedCity$Town", "newNameAt", "(LHookedCity$Tape;)Z"⟩ ∈ GW := gw_i 714 (by decide +kernel) rfl
theorem V_HookedCity_Town_157 : VL "HookedCity$Town" 157 yX9_newNameAt cX9_newNameAt 2 (some .boolean) 1 := ⟨G717, G714, G128, by decide +kernel, by decide +kernel, by decide +kernel⟩
theorem G716 : Cond.instanceMethod ⟨"HookedCity$Town", "newNameAt", "(LHookedCity$Tape;)Z"⟩ ∈ GW := gw_i 716 (by decide +kernel) rfl
theorem G5 : Cond.selects "HookedCity$Town" ⟨"HookedCity$Town", "newNameAt", "(LHookedCity$Tape;)Z"⟩ ⟨"HookedCity$Town", "newNameAt", "(LHookedCity$Tape;)Z"⟩ ∈ GW := gw_i 5 (by decide +kernel) rfl
theorem dX9_readMaid_23 : decode cX9_readMaid 23 = .ok (.ifCond .ne 5, 3) := by decide +kernel
theorem dX9_readMaid_28 : decode cX9_readMaid 28 = .ok (.aload_n 0, 1) := by decide +kernel
theorem dX9_readMaid_29 : decode cX9_readMaid 29 = .ok (.getfield 34, 3) := by decide +kernel
theorem dX9_readMaid_32 : decode cX9_readMaid 32 = .ok (.aload_n 0, 1) := by decide +kernel
theorem dX9_readMaid_33 : decode cX9_readMaid 33 = .ok (.getfield 44, 3) := by decide +kernel
theorem dX9_readMaid_36 : decode cX9_readMaid 36 = .ok (.aload_n 1, 1) := by decide +kernel
theorem dX9_readMaid_37 : decode cX9_readMaid 37 = .ok (.getfield 160, 3) := by decide +kernel
theorem dX9_readMaid_40 : decode cX9_readMaid 40 = .ok (.lastore, 1) := by decide +kernel
theorem dX9_readMaid_41 : decode cX9_readMaid 41 = .ok (.aload_n 1, 1) := by decide +kernel
theorem dX9_readMaid_42 : decode cX9_readMaid 42 = .ok (.invokevirtual 154, 3) := by decide +kernel
theorem dX9_readMaid_45 : decode cX9_readMaid 45 = .ok (.aload_n 0, 1) := by decide +kernel
theorem dX9_readMaid_46 : decode cX9_readMaid 46 = .ok (.getfield 37, 3) := by decide +kernel
theorem dX9_readMaid_49 : decode cX9_readMaid 49 = .ok (.aload_n 0, 1) := by decide +kernel
theorem dX9_readMaid_50 : decode cX9_readMaid 50 = .ok (.getfield 44, 3) := by decide +kernel
theorem dX9_readMaid_53 : decode cX9_readMaid 53 = .ok (.aload_n 1, 1) := by decide +kernel
theorem dX9_readMaid_54 : decode cX9_readMaid 54 = .ok (.iconst 1, 1) := by decide +kernel
theorem dX9_readMaid_55 : decode cX9_readMaid 55 = .ok (.bipush 9, 2) := by decide +kernel
theorem dX9_readMaid_57 : decode cX9_readMaid 57 = .ok (.invokevirtual 168, 3) := by decide +kernel
theorem dX9_readMaid_60 : decode cX9_readMaid 60 = .ok (.iastore, 1) := by decide +kernel
theorem dX9_readMaid_61 : decode cX9_readMaid 61 = .ok (.aload_n 0, 1) := by decide +kernel
theorem dX9_readMaid_62 : decode cX9_readMaid 62 = .ok (.getfield 37, 3) := by decide +kernel
theorem dX9_readMaid_65 : decode cX9_readMaid 65 = .ok (.aload_n 0, 1) := by decide +kernel
theorem dX9_readMaid_66 : decode cX9_readMaid 66 = .ok (.getfield 44, 3) := by decide +kernel
theorem dX9_readMaid_69 : decode cX9_readMaid 69 = .ok (.iaload, 1) := by decide +kernel
theorem dX9_readMaid_70 : decode cX9_readMaid 70 = .ok (.iconst (-1), 1) := by decide +kernel
theorem dX9_readMaid_71 : decode cX9_readMaid 71 = .ok (.if_icmp .ne 5, 3) := by decide +kernel
theorem dX9_readMaid_76 : decode cX9_readMaid 76 = .ok (.aload_n 1, 1) := by decide +kernel
theorem dX9_readMaid_77 : decode cX9_readMaid 77 = .ok (.invokevirtual 154, 3) := by decide +kernel
theorem dX9_readMaid_80 : decode cX9_readMaid 80 = .ok (.aload_n 0, 1) := by decide +kernel
theorem dX9_readMaid_81 : decode cX9_readMaid 81 = .ok (.dup, 1) := by decide +kernel
theorem dX9_readMaid_82 : decode cX9_readMaid 82 = .ok (.getfield 44, 3) := by decide +kernel
theorem dX9_readMaid_85 : decode cX9_readMaid 85 = .ok (.iconst 1, 1) := by decide +kernel
theorem dX9_readMaid_86 : decode cX9_readMaid 86 = .ok (.iadd, 1) := by decide +kernel
theorem dX9_readMaid_87 : decode cX9_readMaid 87 = .ok (.putfield 44, 3) := by decide +kernel
theorem dX9_readMaid_90 : decode cX9_readMaid 90 = .ok (.iconst 1, 1) := by decide +kernel
theorem dX9_readMaid_91 : decode cX9_readMaid 91 = .ok (.ireturn, 1) := by decide +kernel
theorem dX9_readMaid_74 : decode cX9_readMaid 74 = .ok (.iconst 0, 1) := by decide +kernel
theorem dX9_readMaid_75 : decode cX9_readMaid 75 = .ok (.ireturn, 1) := by decide +kernel
theorem dX9_readMaid_26 : decode cX9_readMaid 26 = .ok (.iconst 0, 1) := by decide +kernel
theorem dX9_readMaid_27 : decode cX9_readMaid 27 = .ok (.ireturn, 1) := by decide +kernel
theorem dX9_readMaid_8 : decode cX9_readMaid 8 = .ok (.aload_n 1, 1) := by decide +kernel
theorem dX9_readMaid_9 : decode cX9_readMaid 9 = .ok (.iconst 4, 1) := by decide +kernel
theorem dX9_readMaid_10 : decode cX9_readMaid 10 = .ok (.invokevirtual 150, 3) := by decide +kernel
theorem dX9_readMaid_13 : decode cX9_readMaid 13 = .ok (.ireturn, 1) := by decide +kernel
theorem dX9_kindAt_0 : decode cX9_kindAt 0 = .ok (.aload_n 1, 1) := by decide +kernel
theorem dX9_kindAt_1 : decode cX9_kindAt 1 = .ok (.getfield 102, 3) := by decide +kernel
theorem N172 : Cond.fieldLinkNest "HookedCity$Town" 102 "HookedCity$Tape" "word" "LHookedCity$Word;" "HookedCity" ∈ lw_tbl := List.mem_of_getElem? (i := 172) (by decide +kernel)
theorem dX9_kindAt_4 : decode cX9_kindAt 4 = .ok (.astore_n 2, 1) := by decide +kernel
theorem dX9_kindAt_5 : decode cX9_kindAt 5 = .ok (.aload_n 2, 1) := by decide +kernel
theorem dX9_kindAt_6 : decode cX9_kindAt 6 = .ok (.ifnull 11, 3) := by decide +kernel
theorem dX9_kindAt_17 : decode cX9_kindAt 17 = .ok (.aload_n 1, 1) := by decide +kernel
theorem dX9_kindAt_18 : decode cX9_kindAt 18 = .ok (.iconst 1, 1) := by decide +kernel
theorem dX9_kindAt_19 : decode cX9_kindAt 19 = .ok (.invokevirtual 150, 3) := by decide +kernel
theorem dX9_kindAt_22 : decode cX9_kindAt 22 = .ok (.pop, 1) := by decide +kernel
theorem dX9_kindAt_23 : decode cX9_kindAt 23 = .ok (.iconst (-1), 1) := by decide +kernel
theorem dX9_kindAt_24 : decode cX9_kindAt 24 = .ok (.ireturn, 1) := by decide +kernel
theorem dX9_kindAt_9 : decode cX9_kindAt 9 = .ok (.aload_n 2, 1) := by decide +kernel
theorem dX9_kindAt_10 : decode cX9_kindAt 10 = .ok (.getfield 186, 3) := by decide +kernel
theorem N2087 : Cond.fieldLinkNest "HookedCity$Town" 186 "HookedCity$Word" "kind" "I" "HookedCity" ∈ lw_tbl := List.mem_of_getElem? (i := 2087) (by decide +kernel)
theorem dX9_kindAt_13 : decode cX9_kindAt 13 = .ok (.iconst (-1), 1) := by decide +kernel
theorem dX9_kindAt_14 : decode cX9_kindAt 14 = .ok (.if_icmp .ne 11, 3) := by decide +kernel
theorem dX9_kindAt_25 : decode cX9_kindAt 25 = .ok (.aload_n 2, 1) := by decide +kernel
theorem dX9_kindAt_26 : decode cX9_kindAt 26 = .ok (.getfield 186, 3) := by decide +kernel
theorem dX9_kindAt_29 : decode cX9_kindAt 29 = .ok (.ireturn, 1) := by decide +kernel
theorem dX9_readPerson_0 : decode cX9_readPerson 0 = .ok (.aload_n 0, 1) := by decide +kernel
theorem dX9_readPerson_1 : decode cX9_readPerson 1 = .ok (.getfield 40, 3) := by decide +kernel
theorem dX9_readPerson_4 : decode cX9_readPerson 4 = .ok (.bipush 9, 2) := by decide +kernel
theorem dX9_readPerson_6 : decode cX9_readPerson 6 = .ok (.if_icmp .lt 9, 3) := by decide +kernel
theorem dX9_readPerson_15 : decode cX9_readPerson 15 = .ok (.aload_n 1, 1) := by decide +kernel
theorem dX9_readPerson_16 : decode cX9_readPerson 16 = .ok (.invokevirtual 154, 3) := by decide +kernel
theorem dX9_readPerson_19 : decode cX9_readPerson 19 = .ok (.aload_n 0, 1) := by decide +kernel
theorem dX9_readPerson_20 : decode cX9_readPerson 20 = .ok (.aload_n 1, 1) := by decide +kernel
theorem dX9_readPerson_21 : decode cX9_readPerson 21 = .ok (.invokevirtual 157, 3) := by decide +kernel
theorem dX9_readPerson_24 : decode cX9_readPerson 24 = .ok (.ifCond .ne 5, 3) := by decide +kernel
theorem dX9_readPerson_29 : decode cX9_readPerson 29 = .ok (.aload_n 0, 1) := by decide +kernel
theorem dX9_readPerson_30 : decode cX9_readPerson 30 = .ok (.getfield 9, 3) := by decide +kernel
theorem dX9_readPerson_33 : decode cX9_readPerson 33 = .ok (.aload_n 0, 1) := by decide +kernel
theorem dX9_readPerson_34 : decode cX9_readPerson 34 = .ok (.getfield 40, 3) := by decide +kernel
theorem dX9_readPerson_37 : decode cX9_readPerson 37 = .ok (.aload_n 1, 1) := by decide +kernel
theorem dX9_readPerson_38 : decode cX9_readPerson 38 = .ok (.getfield 160, 3) := by decide +kernel
theorem dX9_readPerson_41 : decode cX9_readPerson 41 = .ok (.lastore, 1) := by decide +kernel
theorem dX9_readPerson_42 : decode cX9_readPerson 42 = .ok (.aload_n 1, 1) := by decide +kernel
theorem dX9_readPerson_43 : decode cX9_readPerson 43 = .ok (.invokevirtual 154, 3) := by decide +kernel
theorem dX9_readPerson_46 : decode cX9_readPerson 46 = .ok (.aload_n 0, 1) := by decide +kernel
theorem dX9_readPerson_47 : decode cX9_readPerson 47 = .ok (.getfield 15, 3) := by decide +kernel
theorem dX9_readPerson_50 : decode cX9_readPerson 50 = .ok (.aload_n 0, 1) := by decide +kernel
theorem dX9_readPerson_51 : decode cX9_readPerson 51 = .ok (.getfield 40, 3) := by decide +kernel
theorem dX9_readPerson_54 : decode cX9_readPerson 54 = .ok (.aload_n 0, 1) := by decide +kernel
theorem dX9_readPerson_55 : decode cX9_readPerson 55 = .ok (.aload_n 1, 1) := by decide +kernel
theorem dX9_readPerson_56 : decode cX9_readPerson 56 = .ok (.invokevirtual 164, 3) := by decide +kernel
theorem G724 : Cond.code ⟨"HookedCity$Town", "kindAt", "(LHookedCity$Tape;)I"⟩ prog_11_method_15_code 3 (some .int) ∈ GW := gw_i 724 (by decide +kernel) rfl
theorem G721 : Cond.methodLink "HookedCity$Town" 164 ⟨"HookedCity$Town", "kindAt", "(LHookedCity$Tape;)I"⟩ ∈ GW := gw_i 721 (by decide +kernel) rfl
theorem V_HookedCity_Town_164 : VL "HookedCity$Town" 164 yX9_kindAt cX9_kindAt 3 (some .int) 1 := ⟨G724, G721, G128, by decide +kernel, by decide +kernel, by decide +kernel⟩
theorem G723 : Cond.instanceMethod ⟨"HookedCity$Town", "kindAt", "(LHookedCity$Tape;)I"⟩ ∈ GW := gw_i 723 (by decide +kernel) rfl
theorem G6 : Cond.selects "HookedCity$Town" ⟨"HookedCity$Town", "kindAt", "(LHookedCity$Tape;)I"⟩ ⟨"HookedCity$Town", "kindAt", "(LHookedCity$Tape;)I"⟩ ∈ GW := gw_i 6 (by decide +kernel) rfl
theorem dX9_readPerson_59 : decode cX9_readPerson 59 = .ok (.iastore, 1) := by decide +kernel
theorem dX9_readPerson_60 : decode cX9_readPerson 60 = .ok (.aload_n 0, 1) := by decide +kernel
theorem dX9_readPerson_61 : decode cX9_readPerson 61 = .ok (.getfield 15, 3) := by decide +kernel
theorem dX9_readPerson_64 : decode cX9_readPerson 64 = .ok (.aload_n 0, 1) := by decide +kernel
theorem dX9_readPerson_65 : decode cX9_readPerson 65 = .ok (.getfield 40, 3) := by decide +kernel
theorem dX9_readPerson_68 : decode cX9_readPerson 68 = .ok (.iaload, 1) := by decide +kernel
theorem dX9_readPerson_69 : decode cX9_readPerson 69 = .ok (.iconst (-1), 1) := by decide +kernel
theorem dX9_readPerson_70 : decode cX9_readPerson 70 = .ok (.if_icmp .ne 5, 3) := by decide +kernel
theorem dX9_readPerson_75 : decode cX9_readPerson 75 = .ok (.aload_n 1, 1) := by decide +kernel
theorem dX9_readPerson_76 : decode cX9_readPerson 76 = .ok (.invokevirtual 154, 3) := by decide +kernel
theorem dX9_readPerson_79 : decode cX9_readPerson 79 = .ok (.aload_n 0, 1) := by decide +kernel
theorem dX9_readPerson_80 : decode cX9_readPerson 80 = .ok (.getfield 19, 3) := by decide +kernel
theorem dX9_readPerson_83 : decode cX9_readPerson 83 = .ok (.aload_n 0, 1) := by decide +kernel
theorem dX9_readPerson_84 : decode cX9_readPerson 84 = .ok (.getfield 40, 3) := by decide +kernel
theorem dX9_readPerson_87 : decode cX9_readPerson 87 = .ok (.aload_n 0, 1) := by decide +kernel
theorem dX9_readPerson_88 : decode cX9_readPerson 88 = .ok (.aload_n 1, 1) := by decide +kernel
theorem dX9_readPerson_89 : decode cX9_readPerson 89 = .ok (.invokevirtual 164, 3) := by decide +kernel
theorem dX9_readPerson_92 : decode cX9_readPerson 92 = .ok (.iastore, 1) := by decide +kernel
theorem dX9_readPerson_93 : decode cX9_readPerson 93 = .ok (.aload_n 0, 1) := by decide +kernel
theorem dX9_readPerson_94 : decode cX9_readPerson 94 = .ok (.getfield 19, 3) := by decide +kernel
theorem dX9_readPerson_97 : decode cX9_readPerson 97 = .ok (.aload_n 0, 1) := by decide +kernel
theorem dX9_readPerson_98 : decode cX9_readPerson 98 = .ok (.getfield 40, 3) := by decide +kernel
theorem dX9_readPerson_101 : decode cX9_readPerson 101 = .ok (.iaload, 1) := by decide +kernel
theorem dX9_readPerson_102 : decode cX9_readPerson 102 = .ok (.iconst (-1), 1) := by decide +kernel
theorem dX9_readPerson_103 : decode cX9_readPerson 103 = .ok (.if_icmp .ne 5, 3) := by decide +kernel
theorem dX9_readPerson_108 : decode cX9_readPerson 108 = .ok (.aload_n 1, 1) := by decide +kernel
theorem dX9_readPerson_109 : decode cX9_readPerson 109 = .ok (.invokevirtual 154, 3) := by decide +kernel
theorem dX9_readPerson_112 : decode cX9_readPerson 112 = .ok (.aload_n 0, 1) := by decide +kernel
theorem dX9_readPerson_113 : decode cX9_readPerson 113 = .ok (.getfield 22, 3) := by decide +kernel
theorem dX9_readPerson_116 : decode cX9_readPerson 116 = .ok (.aload_n 0, 1) := by decide +kernel
theorem dX9_readPerson_117 : decode cX9_readPerson 117 = .ok (.getfield 40, 3) := by decide +kernel
theorem dX9_readPerson_120 : decode cX9_readPerson 120 = .ok (.aload_n 1, 1) := by decide +kernel
theorem dX9_readPerson_121 : decode cX9_readPerson 121 = .ok (.iconst 1, 1) := by decide +kernel
theorem dX9_readPerson_122 : decode cX9_readPerson 122 = .ok (.bipush 9, 2) := by decide +kernel
theorem dX9_readPerson_124 : decode cX9_readPerson 124 = .ok (.invokevirtual 168, 3) := by decide +kernel
theorem dX9_readPerson_127 : decode cX9_readPerson 127 = .ok (.iastore, 1) := by decide +kernel
theorem dX9_readPerson_128 : decode cX9_readPerson 128 = .ok (.aload_n 0, 1) := by decide +kernel
theorem dX9_readPerson_129 : decode cX9_readPerson 129 = .ok (.getfield 22, 3) := by decide +kernel
theorem dX9_readPerson_132 : decode cX9_readPerson 132 = .ok (.aload_n 0, 1) := by decide +kernel
theorem dX9_readPerson_133 : decode cX9_readPerson 133 = .ok (.getfield 40, 3) := by decide +kernel
theorem dX9_readPerson_136 : decode cX9_readPerson 136 = .ok (.iaload, 1) := by decide +kernel
theorem dX9_readPerson_137 : decode cX9_readPerson 137 = .ok (.iconst (-1), 1) := by decide +kernel
theorem dX9_readPerson_138 : decode cX9_readPerson 138 = .ok (.if_icmp .ne 5, 3) := by decide +kernel
theorem dX9_readPerson_143 : decode cX9_readPerson 143 = .ok (.aload_n 1, 1) := by decide +kernel
theorem dX9_readPerson_144 : decode cX9_readPerson 144 = .ok (.invokevirtual 154, 3) := by decide +kernel
theorem dX9_readPerson_147 : decode cX9_readPerson 147 = .ok (.aload_n 0, 1) := by decide +kernel
theorem dX9_readPerson_148 : decode cX9_readPerson 148 = .ok (.dup, 1) := by decide +kernel
theorem dX9_readPerson_149 : decode cX9_readPerson 149 = .ok (.getfield 40, 3) := by decide +kernel
theorem dX9_readPerson_152 : decode cX9_readPerson 152 = .ok (.iconst 1, 1) := by decide +kernel
theorem dX9_readPerson_153 : decode cX9_readPerson 153 = .ok (.iadd, 1) := by decide +kernel
theorem dX9_readPerson_154 : decode cX9_readPerson 154 = .ok (.putfield 40, 3) := by decide +kernel
theorem dX9_readPerson_157 : decode cX9_readPerson 157 = .ok (.iconst 1, 1) := by decide +kernel
theorem dX9_readPerson_158 : decode cX9_readPerson 158 = .ok (.ireturn, 1) := by decide +kernel
theorem dX9_readPerson_141 : decode cX9_readPerson 141 = .ok (.iconst 0, 1) := by decide +kernel
theorem dX9_readPerson_142 : decode cX9_readPerson 142 = .ok (.ireturn, 1) := by decide +kernel
theorem dX9_readPerson_106 : decode cX9_readPerson 106 = .ok (.iconst 0, 1) := by decide +kernel
theorem dX9_readPerson_107 : decode cX9_readPerson 107 = .ok (.ireturn, 1) := by decide +kernel
theorem dX9_readPerson_73 : decode cX9_readPerson 73 = .ok (.iconst 0, 1) := by decide +kernel
theorem dX9_readPerson_74 : decode cX9_readPerson 74 = .ok (.ireturn, 1) := by decide +kernel
theorem dX9_readPerson_27 : decode cX9_readPerson 27 = .ok (.iconst 0, 1) := by decide +kernel
theorem dX9_readPerson_28 : decode cX9_readPerson 28 = .ok (.ireturn, 1) := by decide +kernel
theorem dX9_readPerson_9 : decode cX9_readPerson 9 = .ok (.aload_n 1, 1) := by decide +kernel
theorem dX9_readPerson_10 : decode cX9_readPerson 10 = .ok (.iconst 4, 1) := by decide +kernel
theorem dX9_readPerson_11 : decode cX9_readPerson 11 = .ok (.invokevirtual 150, 3) := by decide +kernel
theorem dX9_readPerson_14 : decode cX9_readPerson 14 = .ok (.ireturn, 1) := by decide +kernel
theorem dX9_readLine_0 : decode cX9_readLine 0 = .ok (.aload_n 1, 1) := by decide +kernel
theorem dX9_readLine_1 : decode cX9_readLine 1 = .ok (.getfield 102, 3) := by decide +kernel
theorem dX9_readLine_4 : decode cX9_readLine 4 = .ok (.astore_n 2, 1) := by decide +kernel
theorem dX9_readLine_5 : decode cX9_readLine 5 = .ok (.aload_n 2, 1) := by decide +kernel
theorem dX9_readLine_6 : decode cX9_readLine 6 = .ok (.getstatic 106, 3) := by decide +kernel
theorem G703 : Cond.fieldLink "HookedCity$Town" 106 "HookedCity$Word" "PERSON" "LHookedCity$Word;" ∈ GW := gw_i 703 (by decide +kernel) rfl
theorem dX9_readLine_9 : decode cX9_readLine 9 = .ok (.if_acmp .ne 9, 3) := by decide +kernel
theorem dX9_readLine_18 : decode cX9_readLine 18 = .ok (.aload_n 2, 1) := by decide +kernel
theorem dX9_readLine_19 : decode cX9_readLine 19 = .ok (.getstatic 114, 3) := by decide +kernel
theorem G730 : Cond.fieldLink "HookedCity$Town" 114 "HookedCity$Word" "MAID" "LHookedCity$Word;" ∈ GW := gw_i 730 (by decide +kernel) rfl
theorem dX9_readLine_22 : decode cX9_readLine 22 = .ok (.if_acmp .ne 9, 3) := by decide +kernel
theorem dX9_readLine_31 : decode cX9_readLine 31 = .ok (.aload_n 2, 1) := by decide +kernel
theorem dX9_readLine_32 : decode cX9_readLine 32 = .ok (.getstatic 120, 3) := by decide +kernel
theorem G736 : Cond.fieldLink "HookedCity$Town" 120 "HookedCity$Word" "STREET" "LHookedCity$Word;" ∈ GW := gw_i 736 (by decide +kernel) rfl
theorem dX9_readLine_35 : decode cX9_readLine 35 = .ok (.if_acmp .ne 9, 3) := by decide +kernel
theorem dX9_readLine_44 : decode cX9_readLine 44 = .ok (.aload_n 2, 1) := by decide +kernel
theorem dX9_readLine_45 : decode cX9_readLine 45 = .ok (.getstatic 126, 3) := by decide +kernel
theorem G750 : Cond.fieldLink "HookedCity$Town" 126 "HookedCity$Word" "DONE" "LHookedCity$Word;" ∈ GW := gw_i 750 (by decide +kernel) rfl
theorem dX9_readLine_48 : decode cX9_readLine 48 = .ok (.if_acmp .ne 9, 3) := by decide +kernel
theorem dX9_readLine_57 : decode cX9_readLine 57 = .ok (.aload_n 2, 1) := by decide +kernel
theorem dX9_readLine_58 : decode cX9_readLine 58 = .ok (.getstatic 132, 3) := by decide +kernel
theorem G756 : Cond.fieldLink "HookedCity$Town" 132 "HookedCity$Word" "SPARE" "LHookedCity$Word;" ∈ GW := gw_i 756 (by decide +kernel) rfl
theorem dX9_readLine_61 : decode cX9_readLine 61 = .ok (.if_acmp .ne 9, 3) := by decide +kernel
theorem dX9_readLine_70 : decode cX9_readLine 70 = .ok (.aload_n 2, 1) := by decide +kernel
theorem dX9_readLine_71 : decode cX9_readLine 71 = .ok (.getstatic 138, 3) := by decide +kernel
theorem G766 : Cond.fieldLink "HookedCity$Town" 138 "HookedCity$Word" "YEAR" "LHookedCity$Word;" ∈ GW := gw_i 766 (by decide +kernel) rfl
theorem dX9_readLine_74 : decode cX9_readLine 74 = .ok (.if_acmp .ne 9, 3) := by decide +kernel
theorem dX9_readLine_83 : decode cX9_readLine 83 = .ok (.aload_n 2, 1) := by decide +kernel
theorem dX9_readLine_84 : decode cX9_readLine 84 = .ok (.getstatic 144, 3) := by decide +kernel
theorem G772 : Cond.fieldLink "HookedCity$Town" 144 "HookedCity$Word" "JULY" "LHookedCity$Word;" ∈ GW := gw_i 772 (by decide +kernel) rfl
theorem dX9_readLine_87 : decode cX9_readLine 87 = .ok (.if_acmp .ne 9, 3) := by decide +kernel
theorem dX9_readLine_96 : decode cX9_readLine 96 = .ok (.aload_n 1, 1) := by decide +kernel
theorem dX9_readLine_97 : decode cX9_readLine 97 = .ok (.iconst 1, 1) := by decide +kernel
theorem dX9_readLine_98 : decode cX9_readLine 98 = .ok (.invokevirtual 150, 3) := by decide +kernel
theorem dX9_readLine_101 : decode cX9_readLine 101 = .ok (.ireturn, 1) := by decide +kernel
theorem dX9_readLine_90 : decode cX9_readLine 90 = .ok (.aload_n 0, 1) := by decide +kernel
theorem dX9_readLine_91 : decode cX9_readLine 91 = .ok (.aload_n 1, 1) := by decide +kernel
theorem dX9_readLine_92 : decode cX9_readLine 92 = .ok (.invokevirtual 147, 3) := by decide +kernel
theorem G777 : Cond.code ⟨"HookedCity$Town", "readJuly", "(LHookedCity$Tape;)Z"⟩ prog_11_method_12_code 2 (some .boolean) ∈ GW := gw_i 777 (by decide +kernel) rfl
theorem G774 : Cond.methodLink "HookedCity$Town" 147 ⟨"HookedCity$Town", "readJuly", "(LHookedCity$Tape;)Z"⟩ ∈ GW := gw_i 774 (by decide +kernel) rfl
theorem V_HookedCity_Town_147 : VL "HookedCity$Town" 147 yX9_readJuly cX9_readJuly 2 (some .boolean) 1 := ⟨G777, G774, G128, by decide +kernel, by decide +kernel, by decide +kernel⟩
theorem G776 : Cond.instanceMethod ⟨"HookedCity$Town", "readJuly", "(LHookedCity$Tape;)Z"⟩ ∈ GW := gw_i 776 (by decide +kernel) rfl
theorem G14 : Cond.selects "HookedCity$Town" ⟨"HookedCity$Town", "readJuly", "(LHookedCity$Tape;)Z"⟩ ⟨"HookedCity$Town", "readJuly", "(LHookedCity$Tape;)Z"⟩ ∈ GW := gw_i 14 (by decide +kernel) rfl
theorem dX9_readLine_95 : decode cX9_readLine 95 = .ok (.ireturn, 1) := by decide +kernel
theorem dX9_readLine_77 : decode cX9_readLine 77 = .ok (.aload_n 0, 1) := by decide +kernel
theorem dX9_readLine_78 : decode cX9_readLine 78 = .ok (.aload_n 1, 1) := by decide +kernel
theorem dX9_readLine_79 : decode cX9_readLine 79 = .ok (.invokevirtual 141, 3) := by decide +kernel
theorem G771 : Cond.code ⟨"HookedCity$Town", "readYear", "(LHookedCity$Tape;)Z"⟩ prog_11_method_11_code 2 (some .boolean) ∈ GW := gw_i 771 (by decide +kernel) rfl
theorem G768 : Cond.methodLink "HookedCity$Town" 141 ⟨"HookedCity$Town", "readYear", "(LHookedCity$Tape;)Z"⟩ ∈ GW := gw_i 768 (by decide +kernel) rfl
theorem V_HookedCity_Town_141 : VL "HookedCity$Town" 141 yX9_readYear cX9_readYear 2 (some .boolean) 1 := ⟨G771, G768, G128, by decide +kernel, by decide +kernel, by decide +kernel⟩
theorem G770 : Cond.instanceMethod ⟨"HookedCity$Town", "readYear", "(LHookedCity$Tape;)Z"⟩ ∈ GW := gw_i 770 (by decide +kernel) rfl
theorem G13 : Cond.selects "HookedCity$Town" ⟨"HookedCity$Town", "readYear", "(LHookedCity$Tape;)Z"⟩ ⟨"HookedCity$Town", "readYear", "(LHookedCity$Tape;)Z"⟩ ∈ GW := gw_i 13 (by decide +kernel) rfl
theorem dX9_readLine_82 : decode cX9_readLine 82 = .ok (.ireturn, 1) := by decide +kernel
theorem dX9_readLine_64 : decode cX9_readLine 64 = .ok (.aload_n 0, 1) := by decide +kernel
theorem dX9_readLine_65 : decode cX9_readLine 65 = .ok (.aload_n 1, 1) := by decide +kernel
theorem dX9_readLine_66 : decode cX9_readLine 66 = .ok (.invokevirtual 135, 3) := by decide +kernel
theorem G761 : Cond.code ⟨"HookedCity$Town", "readSpare", "(LHookedCity$Tape;)Z"⟩ prog_11_method_10_code 2 (some .boolean) ∈ GW := gw_i 761 (by decide +kernel) rfl
theorem G758 : Cond.methodLink "HookedCity$Town" 135 ⟨"HookedCity$Town", "readSpare", "(LHookedCity$Tape;)Z"⟩ ∈ GW := gw_i 758 (by decide +kernel) rfl
theorem V_HookedCity_Town_135 : VL "HookedCity$Town" 135 yX9_readSpare cX9_readSpare 2 (some .boolean) 1 := ⟨G761, G758, G128, by decide +kernel, by decide +kernel, by decide +kernel⟩
theorem G760 : Cond.instanceMethod ⟨"HookedCity$Town", "readSpare", "(LHookedCity$Tape;)Z"⟩ ∈ GW := gw_i 760 (by decide +kernel) rfl
theorem G11 : Cond.selects "HookedCity$Town" ⟨"HookedCity$Town", "readSpare", "(LHookedCity$Tape;)Z"⟩ ⟨"HookedCity$Town", "readSpare", "(LHookedCity$Tape;)Z"⟩ ∈ GW := gw_i 11 (by decide +kernel) rfl
theorem dX9_readLine_69 : decode cX9_readLine 69 = .ok (.ireturn, 1) := by decide +kernel
theorem dX9_readLine_51 : decode cX9_readLine 51 = .ok (.aload_n 0, 1) := by decide +kernel
theorem dX9_readLine_52 : decode cX9_readLine 52 = .ok (.aload_n 1, 1) := by decide +kernel
theorem dX9_readLine_53 : decode cX9_readLine 53 = .ok (.invokevirtual 129, 3) := by decide +kernel
theorem G755 : Cond.code ⟨"HookedCity$Town", "readDone", "(LHookedCity$Tape;)Z"⟩ prog_11_method_9_code 4 (some .boolean) ∈ GW := gw_i 755 (by decide +kernel) rfl
theorem G752 : Cond.methodLink "HookedCity$Town" 129 ⟨"HookedCity$Town", "readDone", "(LHookedCity$Tape;)Z"⟩ ∈ GW := gw_i 752 (by decide +kernel) rfl
theorem V_HookedCity_Town_129 : VL "HookedCity$Town" 129 yX9_readDone cX9_readDone 4 (some .boolean) 1 := ⟨G755, G752, G128, by decide +kernel, by decide +kernel, by decide +kernel⟩
theorem G754 : Cond.instanceMethod ⟨"HookedCity$Town", "readDone", "(LHookedCity$Tape;)Z"⟩ ∈ GW := gw_i 754 (by decide +kernel) rfl
theorem G10 : Cond.selects "HookedCity$Town" ⟨"HookedCity$Town", "readDone", "(LHookedCity$Tape;)Z"⟩ ⟨"HookedCity$Town", "readDone", "(LHookedCity$Tape;)Z"⟩ ∈ GW := gw_i 10 (by decide +kernel) rfl
theorem dX9_readLine_56 : decode cX9_readLine 56 = .ok (.ireturn, 1) := by decide +kernel
theorem dX9_readLine_38 : decode cX9_readLine 38 = .ok (.aload_n 0, 1) := by decide +kernel
theorem dX9_readLine_39 : decode cX9_readLine 39 = .ok (.aload_n 1, 1) := by decide +kernel
theorem dX9_readLine_40 : decode cX9_readLine 40 = .ok (.invokevirtual 123, 3) := by decide +kernel
theorem G741 : Cond.code ⟨"HookedCity$Town", "readStreet", "(LHookedCity$Tape;)Z"⟩ prog_11_method_8_code 4 (some .boolean) ∈ GW := gw_i 741 (by decide +kernel) rfl
theorem G738 : Cond.methodLink "HookedCity$Town" 123 ⟨"HookedCity$Town", "readStreet", "(LHookedCity$Tape;)Z"⟩ ∈ GW := gw_i 738 (by decide +kernel) rfl
theorem V_HookedCity_Town_123 : VL "HookedCity$Town" 123 yX9_readStreet cX9_readStreet 4 (some .boolean) 1 := ⟨G741, G738, G128, by decide +kernel, by decide +kernel, by decide +kernel⟩
theorem G740 : Cond.instanceMethod ⟨"HookedCity$Town", "readStreet", "(LHookedCity$Tape;)Z"⟩ ∈ GW := gw_i 740 (by decide +kernel) rfl
theorem G8 : Cond.selects "HookedCity$Town" ⟨"HookedCity$Town", "readStreet", "(LHookedCity$Tape;)Z"⟩ ⟨"HookedCity$Town", "readStreet", "(LHookedCity$Tape;)Z"⟩ ∈ GW := gw_i 8 (by decide +kernel) rfl
theorem dX9_readLine_43 : decode cX9_readLine 43 = .ok (.ireturn, 1) := by decide +kernel
theorem dX9_readLine_25 : decode cX9_readLine 25 = .ok (.aload_n 0, 1) := by decide +kernel
theorem dX9_readLine_26 : decode cX9_readLine 26 = .ok (.aload_n 1, 1) := by decide +kernel
theorem dX9_readLine_27 : decode cX9_readLine 27 = .ok (.invokevirtual 117, 3) := by decide +kernel
theorem G735 : Cond.code ⟨"HookedCity$Town", "readMaid", "(LHookedCity$Tape;)Z"⟩ prog_11_method_7_code 2 (some .boolean) ∈ GW := gw_i 735 (by decide +kernel) rfl
theorem G732 : Cond.methodLink "HookedCity$Town" 117 ⟨"HookedCity$Town", "readMaid", "(LHookedCity$Tape;)Z"⟩ ∈ GW := gw_i 732 (by decide +kernel) rfl
theorem V_HookedCity_Town_117 : VL "HookedCity$Town" 117 yX9_readMaid cX9_readMaid 2 (some .boolean) 1 := ⟨G735, G732, G128, by decide +kernel, by decide +kernel, by decide +kernel⟩
theorem G734 : Cond.instanceMethod ⟨"HookedCity$Town", "readMaid", "(LHookedCity$Tape;)Z"⟩ ∈ GW := gw_i 734 (by decide +kernel) rfl
theorem G7 : Cond.selects "HookedCity$Town" ⟨"HookedCity$Town", "readMaid", "(LHookedCity$Tape;)Z"⟩ ⟨"HookedCity$Town", "readMaid", "(LHookedCity$Tape;)Z"⟩ ∈ GW := gw_i 7 (by decide +kernel) rfl
theorem dX9_readLine_30 : decode cX9_readLine 30 = .ok (.ireturn, 1) := by decide +kernel
theorem dX9_readLine_12 : decode cX9_readLine 12 = .ok (.aload_n 0, 1) := by decide +kernel
theorem dX9_readLine_13 : decode cX9_readLine 13 = .ok (.aload_n 1, 1) := by decide +kernel
theorem dX9_readLine_14 : decode cX9_readLine 14 = .ok (.invokevirtual 111, 3) := by decide +kernel
theorem G708 : Cond.code ⟨"HookedCity$Town", "readPerson", "(LHookedCity$Tape;)Z"⟩ prog_11_method_6_code 2 (some .boolean) ∈ GW := gw_i 708 (by decide +kernel) rfl
theorem G705 : Cond.methodLink "HookedCity$Town" 111 ⟨"HookedCity$Town", "readPerson", "(LHookedCity$Tape;)Z"⟩ ∈ GW := gw_i 705 (by decide +kernel) rfl
theorem V_HookedCity_Town_111 : VL "HookedCity$Town" 111 yX9_readPerson cX9_readPerson 2 (some .boolean) 1 := ⟨G708, G705, G128, by decide +kernel, by decide +kernel, by decide +kernel⟩
theorem G707 : Cond.instanceMethod ⟨"HookedCity$Town", "readPerson", "(LHookedCity$Tape;)Z"⟩ ∈ GW := gw_i 707 (by decide +kernel) rfl
theorem G4 : Cond.selects "HookedCity$Town" ⟨"HookedCity$Town", "readPerson", "(LHookedCity$Tape;)Z"⟩ ⟨"HookedCity$Town", "readPerson", "(LHookedCity$Tape;)Z"⟩ ∈ GW := gw_i 4 (by decide +kernel) rfl
theorem dX9_readLine_17 : decode cX9_readLine 17 = .ok (.ireturn, 1) := by decide +kernel
theorem dX9_read_0 : decode cX9_read 0 = .ok (.aload_n 0, 1) := by decide +kernel
theorem dX9_read_1 : decode cX9_read 1 = .ok (.invokevirtual 81, 3) := by decide +kernel
theorem G580 : Cond.code ⟨"HookedCity$Town", "clear", "()V"⟩ prog_11_method_2_code 1 none ∈ GW := gw_i 580 (by decide +kernel) rfl
theorem G577 : Cond.methodLink "HookedCity$Town" 81 ⟨"HookedCity$Town", "clear", "()V"⟩ ∈ GW := gw_i 577 (by decide +kernel) rfl
theorem V_HookedCity_Town_81 : VL "HookedCity$Town" 81 yX9_clear cX9_clear 1 none 0 := ⟨G580, G577, G128, by decide +kernel, by decide +kernel, by decide +kernel⟩
theorem G579 : Cond.instanceMethod ⟨"HookedCity$Town", "clear", "()V"⟩ ∈ GW := gw_i 579 (by decide +kernel) rfl
theorem G1 : Cond.selects "HookedCity$Town" ⟨"HookedCity$Town", "clear", "()V"⟩ ⟨"HookedCity$Town", "clear", "()V"⟩ ∈ GW := gw_i 1 (by decide +kernel) rfl
theorem dX9_read_4 : decode cX9_read 4 = .ok (.aload_n 1, 1) := by decide +kernel
theorem dX9_read_5 : decode cX9_read 5 = .ok (.sipush 900, 3) := by decide +kernel
theorem dX9_read_8 : decode cX9_read 8 = .ok (.invokevirtual 84, 3) := by decide +kernel
theorem G585 : Cond.code ⟨"HookedCity$Tape", "open", "(I)V"⟩ prog_10_method_6_code 2 none ∈ GW := gw_i 585 (by decide +kernel) rfl
theorem G582 : Cond.methodLink "HookedCity$Town" 84 ⟨"HookedCity$Tape", "open", "(I)V"⟩ ∈ GW := gw_i 582 (by decide +kernel) rfl
theorem V_HookedCity_Town_84 : VL "HookedCity$Town" 84 yX8_open cX8_open 2 none 1 := ⟨G585, G582, G120, by decide +kernel, by decide +kernel, by decide +kernel⟩
theorem G583 : Cond.instanceMethod ⟨"HookedCity$Tape", "open", "(I)V"⟩ ∈ GW := gw_i 583 (by decide +kernel) rfl
theorem G584 : Cond.selects "HookedCity$Tape" ⟨"HookedCity$Tape", "open", "(I)V"⟩ ⟨"HookedCity$Tape", "open", "(I)V"⟩ ∈ GW := gw_i 584 (by decide +kernel) rfl
theorem dX9_read_11 : decode cX9_read 11 = .ok (.aload_n 0, 1) := by decide +kernel
theorem dX9_read_12 : decode cX9_read 12 = .ok (.iconst 0, 1) := by decide +kernel
theorem dX9_read_13 : decode cX9_read 13 = .ok (.putfield 47, 3) := by decide +kernel
theorem G396 : Cond.fieldLink "HookedCity$Town" 47 "HookedCity$Town" "lines" "I" ∈ GW := gw_i 396 (by decide +kernel) rfl
theorem dX9_read_16 : decode cX9_read 16 = .ok (.aload_n 0, 1) := by decide +kernel
theorem dX9_read_17 : decode cX9_read 17 = .ok (.getfield 47, 3) := by decide +kernel
theorem dX9_read_20 : decode cX9_read 20 = .ok (.sipush 900, 3) := by decide +kernel
theorem dX9_read_23 : decode cX9_read 23 = .ok (.if_icmp .ge 42, 3) := by decide +kernel
theorem dX9_read_65 : decode cX9_read 65 = .ok (.iconst 1, 1) := by decide +kernel
theorem dX9_read_66 : decode cX9_read 66 = .ok (.ireturn, 1) := by decide +kernel
theorem dX9_read_26 : decode cX9_read 26 = .ok (.aload_n 1, 1) := by decide +kernel
theorem dX9_read_27 : decode cX9_read 27 = .ok (.invokevirtual 90, 3) := by decide +kernel
theorem G698 : Cond.code ⟨"HookedCity$Tape", "atEnd", "()Z"⟩ prog_10_method_13_code 1 (some .boolean) ∈ GW := gw_i 698 (by decide +kernel) rfl
theorem G695 : Cond.methodLink "HookedCity$Town" 90 ⟨"HookedCity$Tape", "atEnd", "()Z"⟩ ∈ GW := gw_i 695 (by decide +kernel) rfl
theorem V_HookedCity_Town_90 : VL "HookedCity$Town" 90 yX8_atEnd cX8_atEnd 1 (some .boolean) 0 := ⟨G698, G695, G120, by decide +kernel, by decide +kernel, by decide +kernel⟩
theorem G696 : Cond.instanceMethod ⟨"HookedCity$Tape", "atEnd", "()Z"⟩ ∈ GW := gw_i 696 (by decide +kernel) rfl
theorem G697 : Cond.selects "HookedCity$Tape" ⟨"HookedCity$Tape", "atEnd", "()Z"⟩ ⟨"HookedCity$Tape", "atEnd", "()Z"⟩ ∈ GW := gw_i 697 (by decide +kernel) rfl
theorem dX9_read_30 : decode cX9_read 30 = .ok (.ifCond .ne 35, 3) := by decide +kernel
theorem dX9_read_33 : decode cX9_read 33 = .ok (.aload_n 0, 1) := by decide +kernel
theorem dX9_read_34 : decode cX9_read 34 = .ok (.aload_n 1, 1) := by decide +kernel
theorem dX9_read_35 : decode cX9_read 35 = .ok (.invokevirtual 94, 3) := by decide +kernel
theorem G702 : Cond.code ⟨"HookedCity$Town", "readLine", "(LHookedCity$Tape;)Z"⟩ prog_11_method_5_code 3 (some .boolean) ∈ GW := gw_i 702 (by decide +kernel) rfl
theorem G699 : Cond.methodLink "HookedCity$Town" 94 ⟨"HookedCity$Town", "readLine", "(LHookedCity$Tape;)Z"⟩ ∈ GW := gw_i 699 (by decide +kernel) rfl
theorem V_HookedCity_Town_94 : VL "HookedCity$Town" 94 yX9_readLine cX9_readLine 3 (some .boolean) 1 := ⟨G702, G699, G128, by decide +kernel, by decide +kernel, by decide +kernel⟩
theorem G701 : Cond.instanceMethod ⟨"HookedCity$Town", "readLine", "(LHookedCity$Tape;)Z"⟩ ∈ GW := gw_i 701 (by decide +kernel) rfl
theorem G3 : Cond.selects "HookedCity$Town" ⟨"HookedCity$Town", "readLine", "(LHookedCity$Tape;)Z"⟩ ⟨"HookedCity$Town", "readLine", "(LHookedCity$Tape;)Z"⟩ ∈ GW := gw_i 3 (by decide +kernel) rfl
theorem dX9_read_38 : decode cX9_read 38 = .ok (.ifCond .eq 12, 3) := by decide +kernel
theorem dX9_read_50 : decode cX9_read 50 = .ok (.iconst 0, 1) := by decide +kernel
theorem dX9_read_51 : decode cX9_read 51 = .ok (.ireturn, 1) := by decide +kernel
theorem dX9_read_41 : decode cX9_read 41 = .ok (.aload_n 1, 1) := by decide +kernel
theorem dX9_read_42 : decode cX9_read 42 = .ok (.bipush 59, 2) := by decide +kernel
theorem dX9_read_44 : decode cX9_read 44 = .ok (.invokevirtual 98, 3) := by decide +kernel
theorem G781 : Cond.code ⟨"HookedCity$Tape", "pass", "(C)Z"⟩ prog_10_method_16_code 2 (some .boolean) ∈ GW := gw_i 781 (by decide +kernel) rfl
theorem G778 : Cond.methodLink "HookedCity$Town" 98 ⟨"HookedCity$Tape", "pass", "(C)Z"⟩ ∈ GW := gw_i 778 (by decide +kernel) rfl
theorem V_HookedCity_Town_98 : VL "HookedCity$Town" 98 yX8_pass cX8_pass 2 (some .boolean) 1 := ⟨G781, G778, G120, by decide +kernel, by decide +kernel, by decide +kernel⟩
theorem G779 : Cond.instanceMethod ⟨"HookedCity$Tape", "pass", "(C)Z"⟩ ∈ GW := gw_i 779 (by decide +kernel) rfl
theorem G780 : Cond.selects "HookedCity$Tape" ⟨"HookedCity$Tape", "pass", "(C)Z"⟩ ⟨"HookedCity$Tape", "pass", "(C)Z"⟩ ∈ GW := gw_i 780 (by decide +kernel) rfl
theorem dX9_read_47 : decode cX9_read 47 = .ok (.ifCond .ne 5, 3) := by decide +kernel
theorem dX9_read_52 : decode cX9_read 52 = .ok (.aload_n 0, 1) := by decide +kernel
theorem dX9_read_53 : decode cX9_read 53 = .ok (.dup, 1) := by decide +kernel
theorem dX9_read_54 : decode cX9_read 54 = .ok (.getfield 47, 3) := by decide +kernel
theorem dX9_read_57 : decode cX9_read 57 = .ok (.iconst 1, 1) := by decide +kernel
theorem dX9_read_58 : decode cX9_read 58 = .ok (.iadd, 1) := by decide +kernel
theorem dX9_read_59 : decode cX9_read 59 = .ok (.putfield 47, 3) := by decide +kernel
theorem dX9_read_62 : decode cX9_read 62 = .ok (.goto (-46), 3) := by decide +kernel
theorem dX9_maidAt_0 : decode cX9_maidAt 0 = .ok (.aload_n 0, 1) := by decide +kernel
theorem dX9_maidAt_1 : decode cX9_maidAt 1 = .ok (.aload_n 1, 1) := by decide +kernel
theorem dX9_maidAt_2 : decode cX9_maidAt 2 = .ok (.aload_n 0, 1) := by decide +kernel
theorem dX9_maidAt_3 : decode cX9_maidAt 3 = .ok (.getfield 34, 3) := by decide +kernel
theorem dX9_maidAt_6 : decode cX9_maidAt 6 = .ok (.aload_n 0, 1) := by decide +kernel
theorem dX9_maidAt_7 : decode cX9_maidAt 7 = .ok (.getfield 44, 3) := by decide +kernel
theorem dX9_maidAt_10 : decode cX9_maidAt 10 = .ok (.invokevirtual 189, 3) := by decide +kernel
theorem dX9_maidAt_13 : decode cX9_maidAt 13 = .ok (.ireturn, 1) := by decide +kernel
theorem dX9_everybody_0 : decode cX9_everybody 0 = .ok (.iconst 1, 1) := by decide +kernel
theorem dX9_everybody_1 : decode cX9_everybody 1 = .ok (.aload_n 0, 1) := by decide +kernel
theorem dX9_everybody_2 : decode cX9_everybody 2 = .ok (.getfield 40, 3) := by decide +kernel
theorem dX9_everybody_5 : decode cX9_everybody 5 = .ok (.ishl, 1) := by decide +kernel
theorem dX9_everybody_6 : decode cX9_everybody 6 = .ok (.iconst 1, 1) := by decide +kernel
theorem dX9_everybody_7 : decode cX9_everybody 7 = .ok (.isub, 1) := by decide +kernel
theorem dX9_everybody_8 : decode cX9_everybody 8 = .ok (.ireturn, 1) := by decide +kernel
theorem dX9_allHooks_0 : decode cX9_allHooks 0 = .ok (.iconst 0, 1) := by decide +kernel
theorem dX9_allHooks_1 : decode cX9_allHooks 1 = .ok (.istore_n 1, 1) := by decide +kernel
theorem dX9_allHooks_2 : decode cX9_allHooks 2 = .ok (.iconst 0, 1) := by decide +kernel
theorem dX9_allHooks_3 : decode cX9_allHooks 3 = .ok (.istore_n 2, 1) := by decide +kernel
theorem dX9_allHooks_4 : decode cX9_allHooks 4 = .ok (.iload_n 2, 1) := by decide +kernel
theorem dX9_allHooks_5 : decode cX9_allHooks 5 = .ok (.aload_n 0, 1) := by decide +kernel
theorem dX9_allHooks_6 : decode cX9_allHooks 6 = .ok (.getfield 44, 3) := by decide +kernel
theorem dX9_allHooks_9 : decode cX9_allHooks 9 = .ok (.if_icmp .ge 18, 3) := by decide +kernel
theorem dX9_allHooks_27 : decode cX9_allHooks 27 = .ok (.iload_n 1, 1) := by decide +kernel
theorem dX9_allHooks_28 : decode cX9_allHooks 28 = .ok (.ireturn, 1) := by decide +kernel
theorem dX9_allHooks_12 : decode cX9_allHooks 12 = .ok (.iload_n 1, 1) := by decide +kernel
theorem dX9_allHooks_13 : decode cX9_allHooks 13 = .ok (.aload_n 0, 1) := by decide +kernel
theorem dX9_allHooks_14 : decode cX9_allHooks 14 = .ok (.getfield 37, 3) := by decide +kernel
theorem dX9_allHooks_17 : decode cX9_allHooks 17 = .ok (.iload_n 2, 1) := by decide +kernel
theorem dX9_allHooks_18 : decode cX9_allHooks 18 = .ok (.iaload, 1) := by decide +kernel
theorem dX9_allHooks_19 : decode cX9_allHooks 19 = .ok (.iadd, 1) := by decide +kernel
theorem dX9_allHooks_20 : decode cX9_allHooks 20 = .ok (.istore_n 1, 1) := by decide +kernel
theorem dX9_allHooks_21 : decode cX9_allHooks 21 = .ok (.iinc 2 1, 3) := by decide +kernel
theorem dX9_allHooks_24 : decode cX9_allHooks 24 = .ok (.goto (-20), 3) := by decide +kernel
set_option maxRecDepth 100000 in
set_option maxHeartbeats 4000000 in
theorem c274_J7_fill_53178 (l : Launch) (D : va_G) (T : Nat → ClassId) (sz : Nat) (a0 : Nat) (x0 : Int) (f0 : Int → Int) (x0_a : 0 ≤ x0) (x0_b : x0 ≤ 511) (f0_h : rng 0 511 f0) : Met l yJ7_fill_53178 (Cond.code yJ7_fill_53178 cJ7_fill_53178 4 none :: GW) (Rm 0 0 0) (cPre [.ref a0, .int (iI x0)] D T [(a0, .inl (T 0, 9, .inl (cI f0)))] sz) (qV D [(a0, .inl (T 0, 9, .inl (cI f0)))] sz (fun (u : (Int → Int)) => rng 0 511 u ∧ (∀ i : Int, 0 ≤ i → i < 9 → u i = x0)) (fun u => [(a0, .inl (T 0, 9, .inl (cI u)))])) 0 0 (va_A [(a0, .inl (T 0, 9, .inl (cI f0)))] sz) := by
  refine e_V (by decide) (Nat.le_of_ble_eq_true rfl) ?_
  intro p e s m args below meth c A Q ls M hin w ret hl
  have hx := M.1.1
  have hb := M.1.2.1
  have hl : lv_has ls 4 [(0, .ref a0), (1, .int (iI x0))] := hl
  refine lv_iconst (v := iI 0) hx hb dJ7_fill_53178_0 (by decide +kernel) ?_
  refine lv_istore_n (lv' := [(2, .int (iI 0)), (0, .ref a0), (1, .int (iI x0))]) hx hb dJ7_fill_53178_1 rfl hl (by decide) rfl (fun ls hl => ?_)
  refine lv_aload_n hx hb dJ7_fill_53178_2 rfl (lv_at hl 1 rfl) ?_
  refine r_alen (v := iI 9) M w 0 0 rfl rfl (show Int32.ofNat 9 = iI 9 from by decide +kernel) dJ7_fill_53178_3 ?_
  refine lv_istore_n (lv' := [(3, .int (iI 9)), (2, .int (iI 0)), (0, .ref a0), (1, .int (iI x0))]) hx hb dJ7_fill_53178_4 rfl hl (by decide) rfl (fun ls hl => ?_)
  have loop1 : ∀ (k1 : Nat) (ff1 : Int → Int) (z2 : Int) (H : Heap) (locs : List Loc) (ls : Array Slot), rng 0 511 ff1 → 0 ≤ z2 → z2 ≤ 2147483647 → (∀ i : Int, 0 ≤ i → i < z2 → ff1 i = x0) → ((9 - z2) : Int).toNat < k1 → WD D A s.heap [(a0, .inl (T 0, 9, .inl (cI ff1)))] H locs → lv_has ls 4 [(3, .int (iI 9)), (2, .int (iI z2)), (0, .ref a0), (1, .int (iI x0))] → W p l e (Rm 0 0 0) s m args below meth c H locs 0 0 Q (F0 m 5 ls []) := by
    intro k1
    induction k1 with
    | zero => intro ff1 z2 H locs ls ff1_h z2_a z2_b lq1_f hm; exact absurd hm (Nat.not_lt_zero _)
    | succ k1 ih1 =>
      intro ff1 z2 H locs ls ff1_h z2_a z2_b lq1_f hm1 w hl
      refine lv_iload_n hx hb dJ7_fill_53178_5 rfl (lv_at hl 1 rfl) ?_
      refine lv_iload_n hx hb dJ7_fill_53178_6 rfl (lv_at hl 0 rfl) ?_
      refine lv_icmp_ge (tgt := 20) hx hb dJ7_fill_53178_7 (by decide) (fun c_3 => ?_) (fun c_3 => ?_)
      · replace c_3 := (iI_le (by decide) (by decide) (Int.le_trans (by decide) z2_a) (Int.le_trans z2_b (by decide))).mp c_3
        exact ret ff1 _ _ _ _ _ [0] dJ7_fill_53178_20 ⟨ff1_h, (show ∀ i : Int, 0 ≤ i → i < 9 → ff1 i = x0 from (fun i i0 i1 => lq1_f i i0 (by omega)))⟩ w (by decide) rfl
      · replace c_3 : z2 < 9 := Int.not_le.mp (fun h => c_3 ((iI_le (by decide) (by decide) (Int.le_trans (by decide) z2_a) (Int.le_trans z2_b (by decide))).mpr h))
        refine lv_aload_n hx hb dJ7_fill_53178_10 rfl (lv_at hl 2 rfl) ?_
        refine lv_iload_n hx hb dJ7_fill_53178_11 rfl (lv_at hl 1 rfl) ?_
        refine lv_iload_n hx hb dJ7_fill_53178_12 rfl (lv_at hl 3 rfl) ?_
        refine r_iast (ws' := [(a0, .inl (T 0, 9, .inl (cI (upz ff1 z2 x0))))]) M w 0 rfl (iI_in (by omega) (by omega) (by decide)) (by rw [cI_up (by omega) (by omega)]; rfl) dJ7_fill_53178_13 (fun H locs w => ?_)
        refine lv_iinc (v := iI (z2 + 1)) (lv' := [(2, .int (iI (z2 + 1))), (3, .int (iI 9)), (0, .ref a0), (1, .int (iI x0))]) hx hb dJ7_fill_53178_14 hl (k := 1) rfl (ii_inc (by decide +kernel)) (by decide) rfl (fun ls hl => ?_)
        refine lv_goto (tgt := 5) hx hb dJ7_fill_53178_17 (by decide) ?_
        exact ih1 (upz ff1 z2 x0) (z2 + 1) _ _ _ (rng_up ff1_h (by omega) (by omega)) (by omega) (by omega) (fun i i0 i1 => fill_s lq1_f i0 i1) (by omega) w (lv_sub hl [1, 0, 2, 3] rfl)
  exact loop1 ((9 : Int).toNat + 1) f0 0 _ _ _ f0_h (by decide) (by decide) (fun i i0 i1 => absurd i1 (by omega)) (Nat.lt_succ_self _) w (lv_sub hl [0, 1, 2, 3] rfl)
set_option maxRecDepth 100000 in
set_option maxHeartbeats 4000000 in
theorem c275_J7_fill_53178 (l : Launch) (D : va_G) (T : Nat → ClassId) (sz : Nat) (a0 : Nat) (x0 : Int) (f0 : Int → Int) (x0_a : (-1) ≤ x0) (x0_b : x0 ≤ 8) (f0_h : rng (-1) 8 f0) : Met l yJ7_fill_53178 (Cond.code yJ7_fill_53178 cJ7_fill_53178 4 none :: GW) (Rm 0 0 0) (cPre [.ref a0, .int (iI x0)] D T [(a0, .inl (T 0, 9, .inl (cI f0)))] sz) (qV D [(a0, .inl (T 0, 9, .inl (cI f0)))] sz (fun (u : (Int → Int)) => rng (-1) 8 u ∧ (∀ i : Int, 0 ≤ i → i < 9 → u i = x0)) (fun u => [(a0, .inl (T 0, 9, .inl (cI u)))])) 0 0 (va_A [(a0, .inl (T 0, 9, .inl (cI f0)))] sz) := by
  refine e_V (by decide) (Nat.le_of_ble_eq_true rfl) ?_
  intro p e s m args below meth c A Q ls M hin w ret hl
  have hx := M.1.1
  have hb := M.1.2.1
  have hl : lv_has ls 4 [(0, .ref a0), (1, .int (iI x0))] := hl
  refine lv_iconst (v := iI 0) hx hb dJ7_fill_53178_0 (by decide +kernel) ?_
  refine lv_istore_n (lv' := [(2, .int (iI 0)), (0, .ref a0), (1, .int (iI x0))]) hx hb dJ7_fill_53178_1 rfl hl (by decide) rfl (fun ls hl => ?_)
  refine lv_aload_n hx hb dJ7_fill_53178_2 rfl (lv_at hl 1 rfl) ?_
  refine r_alen (v := iI 9) M w 0 0 rfl rfl (show Int32.ofNat 9 = iI 9 from by decide +kernel) dJ7_fill_53178_3 ?_
  refine lv_istore_n (lv' := [(3, .int (iI 9)), (2, .int (iI 0)), (0, .ref a0), (1, .int (iI x0))]) hx hb dJ7_fill_53178_4 rfl hl (by decide) rfl (fun ls hl => ?_)
  have loop1 : ∀ (k1 : Nat) (ff1 : Int → Int) (z2 : Int) (H : Heap) (locs : List Loc) (ls : Array Slot), rng (-1) 8 ff1 → 0 ≤ z2 → z2 ≤ 2147483647 → (∀ i : Int, 0 ≤ i → i < z2 → ff1 i = x0) → ((9 - z2) : Int).toNat < k1 → WD D A s.heap [(a0, .inl (T 0, 9, .inl (cI ff1)))] H locs → lv_has ls 4 [(3, .int (iI 9)), (2, .int (iI z2)), (0, .ref a0), (1, .int (iI x0))] → W p l e (Rm 0 0 0) s m args below meth c H locs 0 0 Q (F0 m 5 ls []) := by
    intro k1
    induction k1 with
    | zero => intro ff1 z2 H locs ls ff1_h z2_a z2_b lq1_f hm; exact absurd hm (Nat.not_lt_zero _)
    | succ k1 ih1 =>
      intro ff1 z2 H locs ls ff1_h z2_a z2_b lq1_f hm1 w hl
      refine lv_iload_n hx hb dJ7_fill_53178_5 rfl (lv_at hl 1 rfl) ?_
      refine lv_iload_n hx hb dJ7_fill_53178_6 rfl (lv_at hl 0 rfl) ?_
      refine lv_icmp_ge (tgt := 20) hx hb dJ7_fill_53178_7 (by decide) (fun c_3 => ?_) (fun c_3 => ?_)
      · replace c_3 := (iI_le (by decide) (by decide) (Int.le_trans (by decide) z2_a) (Int.le_trans z2_b (by decide))).mp c_3
        exact ret ff1 _ _ _ _ _ [0] dJ7_fill_53178_20 ⟨ff1_h, (show ∀ i : Int, 0 ≤ i → i < 9 → ff1 i = x0 from (fun i i0 i1 => lq1_f i i0 (by omega)))⟩ w (by decide) rfl
      · replace c_3 : z2 < 9 := Int.not_le.mp (fun h => c_3 ((iI_le (by decide) (by decide) (Int.le_trans (by decide) z2_a) (Int.le_trans z2_b (by decide))).mpr h))
        refine lv_aload_n hx hb dJ7_fill_53178_10 rfl (lv_at hl 2 rfl) ?_
        refine lv_iload_n hx hb dJ7_fill_53178_11 rfl (lv_at hl 1 rfl) ?_
        refine lv_iload_n hx hb dJ7_fill_53178_12 rfl (lv_at hl 3 rfl) ?_
        refine r_iast (ws' := [(a0, .inl (T 0, 9, .inl (cI (upz ff1 z2 x0))))]) M w 0 rfl (iI_in (by omega) (by omega) (by decide)) (by rw [cI_up (by omega) (by omega)]; rfl) dJ7_fill_53178_13 (fun H locs w => ?_)
        refine lv_iinc (v := iI (z2 + 1)) (lv' := [(2, .int (iI (z2 + 1))), (3, .int (iI 9)), (0, .ref a0), (1, .int (iI x0))]) hx hb dJ7_fill_53178_14 hl (k := 1) rfl (ii_inc (by decide +kernel)) (by decide) rfl (fun ls hl => ?_)
        refine lv_goto (tgt := 5) hx hb dJ7_fill_53178_17 (by decide) ?_
        exact ih1 (upz ff1 z2 x0) (z2 + 1) _ _ _ (rng_up ff1_h (by omega) (by omega)) (by omega) (by omega) (fun i i0 i1 => fill_s lq1_f i0 i1) (by omega) w (lv_sub hl [1, 0, 2, 3] rfl)
  exact loop1 ((9 : Int).toNat + 1) f0 0 _ _ _ f0_h (by decide) (by decide) (fun i i0 i1 => absurd i1 (by omega)) (Nat.lt_succ_self _) w (lv_sub hl [0, 1, 2, 3] rfl)
set_option maxRecDepth 100000 in
set_option maxHeartbeats 4000000 in
theorem c276_X9_clear (l : Launch) (D : va_G) (T : Nat → ClassId) (sz : Nat) (a0 : Nat) (a1 : Nat) (a2 : Nat) (a3 : Nat) (a4 : Nat) (a5 : Nat) (a6 : Nat) (a7 : Nat) (a8 : Nat) (a9 : Nat) (x0 : Int) (x1 : Int) (x2 : Int) (x3 : Int) (x4 : Int) (x5 : Int) (x6 : Int) (x7 : Int) (x8 : Int) (h0 : Nat → Int64) (f0 : Int → Int) (f1 : Int → Int) (f2 : Int → Int) (f3 : Int → Int) (f4 : Int → Int) (f5 : Int → Int) (h1 : Nat → Int64) (f6 : Int → Int) (x0_a : 0 ≤ x0) (x0_b : x0 ≤ 9) (x1_a : 0 ≤ x1) (x1_b : x1 ≤ 3) (x2_a : 0 ≤ x2) (x2_b : x2 ≤ 900) (x3_a : (-2147483648) ≤ x3) (x3_b : x3 ≤ 2147483647) (x4_a : (-2147483648) ≤ x4) (x4_b : x4 ≤ 2147483647) (x5_a : (-2147483648) ≤ x5) (x5_b : x5 ≤ 2147483647) (x6_a : 0 ≤ x6) (x6_b : x6 ≤ 1) (x7_a : 0 ≤ x7) (x7_b : x7 ≤ 1) (x8_a : 0 ≤ x8) (x8_b : x8 ≤ 1) (f0_h : rng (-2147483648) 2147483647 f0) (f1_h : rng (-2147483648) 2147483647 f1) (f2_h : rng (-2147483648) 2147483647 f2) (f3_h : rng 0 511 f3) (f4_h : rng (-1) 8 f4) (f5_h : rng (-1) 8 f5) (f6_h : rng (-2147483648) 2147483647 f6) : Met l yX9_clear (Cond.code yX9_clear cX9_clear 1 none :: GW) (Rm 1 0 0) (cPre [.ref a0] D T [(a0, .inr (9, [.ref a1, .ref a2, .ref a3, .ref a4, .ref a5, .ref a6, .ref a7, .ref a8, .ref a9, .int (iI x0), .int (iI x1), .int (iI x2), .int (iI x3), .int (iI x4), .int (iI x5), .int (iI x6), .int (iI x7), .int (iI x8)])), (a1, .inl (T 1, 9, .inr (.inl h0))), (a2, .inl (T 0, 9, .inl (cI f0))), (a3, .inl (T 0, 9, .inl (cI f1))), (a4, .inl (T 0, 9, .inl (cI f2))), (a5, .inl (T 0, 9, .inl (cI f3))), (a6, .inl (T 0, 9, .inl (cI f4))), (a7, .inl (T 0, 9, .inl (cI f5))), (a8, .inl (T 1, 3, .inr (.inl h1))), (a9, .inl (T 0, 3, .inl (cI f6)))] sz) (qV D [(a0, .inr (9, [.ref a1, .ref a2, .ref a3, .ref a4, .ref a5, .ref a6, .ref a7, .ref a8, .ref a9, .int (iI x0), .int (iI x1), .int (iI x2), .int (iI x3), .int (iI x4), .int (iI x5), .int (iI x6), .int (iI x7), .int (iI x8)])), (a1, .inl (T 1, 9, .inr (.inl h0))), (a2, .inl (T 0, 9, .inl (cI f0))), (a3, .inl (T 0, 9, .inl (cI f1))), (a4, .inl (T 0, 9, .inl (cI f2))), (a5, .inl (T 0, 9, .inl (cI f3))), (a6, .inl (T 0, 9, .inl (cI f4))), (a7, .inl (T 0, 9, .inl (cI f5))), (a8, .inl (T 1, 3, .inr (.inl h1))), (a9, .inl (T 0, 3, .inl (cI f6)))] sz (fun (u : Int × Int × Int × Int × Int × Int × Int × Int × (Int → Int) × (Int → Int) × (Int → Int)) => 0 ≤ u.1 ∧ u.1 ≤ 9 ∧ 0 ≤ u.2.1 ∧ u.2.1 ≤ 3 ∧ (-2147483648) ≤ u.2.2.1 ∧ u.2.2.1 ≤ 2147483647 ∧ (-2147483648) ≤ u.2.2.2.1 ∧ u.2.2.2.1 ≤ 2147483647 ∧ (-2147483648) ≤ u.2.2.2.2.1 ∧ u.2.2.2.2.1 ≤ 2147483647 ∧ 0 ≤ u.2.2.2.2.2.1 ∧ u.2.2.2.2.2.1 ≤ 1 ∧ 0 ≤ u.2.2.2.2.2.2.1 ∧ u.2.2.2.2.2.2.1 ≤ 1 ∧ 0 ≤ u.2.2.2.2.2.2.2.1 ∧ u.2.2.2.2.2.2.2.1 ≤ 1 ∧ rng 0 511 u.2.2.2.2.2.2.2.2.1 ∧ rng (-1) 8 u.2.2.2.2.2.2.2.2.2.1 ∧ rng (-1) 8 u.2.2.2.2.2.2.2.2.2.2 ∧ (cl0 u.2.2.2.2.2.2.2.2.1 u.2.2.2.2.2.2.2.2.2.1 u.2.2.2.2.2.2.2.2.2.2 u.1 u.2.1 u.2.2.1 u.2.2.2.1 u.2.2.2.2.1 u.2.2.2.2.2.1 u.2.2.2.2.2.2.1 u.2.2.2.2.2.2.2.1)) (fun u => [(a0, .inr (9, [.ref a1, .ref a2, .ref a3, .ref a4, .ref a5, .ref a6, .ref a7, .ref a8, .ref a9, .int (iI u.1), .int (iI u.2.1), .int (iI x2), .int (iI u.2.2.1), .int (iI u.2.2.2.1), .int (iI u.2.2.2.2.1), .int (iI u.2.2.2.2.2.1), .int (iI u.2.2.2.2.2.2.1), .int (iI u.2.2.2.2.2.2.2.1)])), (a1, .inl (T 1, 9, .inr (.inl h0))), (a2, .inl (T 0, 9, .inl (cI f0))), (a3, .inl (T 0, 9, .inl (cI f1))), (a4, .inl (T 0, 9, .inl (cI f2))), (a5, .inl (T 0, 9, .inl (cI u.2.2.2.2.2.2.2.2.1))), (a6, .inl (T 0, 9, .inl (cI u.2.2.2.2.2.2.2.2.2.1))), (a7, .inl (T 0, 9, .inl (cI u.2.2.2.2.2.2.2.2.2.2))), (a8, .inl (T 1, 3, .inr (.inl h1))), (a9, .inl (T 0, 3, .inl (cI f6)))])) 0 0 (va_A [(a0, .inr (9, [.ref a1, .ref a2, .ref a3, .ref a4, .ref a5, .ref a6, .ref a7, .ref a8, .ref a9, .int (iI x0), .int (iI x1), .int (iI x2), .int (iI x3), .int (iI x4), .int (iI x5), .int (iI x6), .int (iI x7), .int (iI x8)])), (a1, .inl (T 1, 9, .inr (.inl h0))), (a2, .inl (T 0, 9, .inl (cI f0))), (a3, .inl (T 0, 9, .inl (cI f1))), (a4, .inl (T 0, 9, .inl (cI f2))), (a5, .inl (T 0, 9, .inl (cI f3))), (a6, .inl (T 0, 9, .inl (cI f4))), (a7, .inl (T 0, 9, .inl (cI f5))), (a8, .inl (T 1, 3, .inr (.inl h1))), (a9, .inl (T 0, 3, .inl (cI f6)))] sz) := by
  refine e_V (by decide) (Nat.le_of_ble_eq_true rfl) ?_
  intro p e s m args below meth c A Q ls M hin w ret hl
  have hx := M.1.1
  have hb := M.1.2.1
  have hl : lv_has ls 1 [(0, .ref a0)] := hl
  refine lv_aload_n hx hb dX9_clear_0 rfl (lv_at hl 0 rfl) ?_
  refine lv_iconst (v := iI 0) hx hb dX9_clear_1 (by decide +kernel) ?_
  refine r_put (ws' := [(a0, .inr (9, [.ref a1, .ref a2, .ref a3, .ref a4, .ref a5, .ref a6, .ref a7, .ref a8, .ref a9, .int (iI 0), .int (iI x1), .int (iI x2), .int (iI x3), .int (iI x4), .int (iI x5), .int (iI x6), .int (iI x7), .int (iI x8)])), (a1, .inl (T 1, 9, .inr (.inl h0))), (a2, .inl (T 0, 9, .inl (cI f0))), (a3, .inl (T 0, 9, .inl (cI f1))), (a4, .inl (T 0, 9, .inl (cI f2))), (a5, .inl (T 0, 9, .inl (cI f3))), (a6, .inl (T 0, 9, .inl (cI f4))), (a7, .inl (T 0, 9, .inl (cI f5))), (a8, .inl (T 1, 3, .inr (.inl h1))), (a9, .inl (T 0, 3, .inl (cI f6)))]) M w 0 9 clX9 rfl (by decide) G387 rfl rfl rfl rfl (Nat.le_of_ble_eq_true rfl) rfl dX9_clear_2 (fun H locs w => ?_)
  refine lv_aload_n hx hb dX9_clear_5 rfl (lv_at hl 0 rfl) ?_
  refine lv_iconst (v := iI 0) hx hb dX9_clear_6 (by decide +kernel) ?_
  refine r_put (ws' := [(a0, .inr (9, [.ref a1, .ref a2, .ref a3, .ref a4, .ref a5, .ref a6, .ref a7, .ref a8, .ref a9, .int (iI 0), .int (iI 0), .int (iI x2), .int (iI x3), .int (iI x4), .int (iI x5), .int (iI x6), .int (iI x7), .int (iI x8)])), (a1, .inl (T 1, 9, .inr (.inl h0))), (a2, .inl (T 0, 9, .inl (cI f0))), (a3, .inl (T 0, 9, .inl (cI f1))), (a4, .inl (T 0, 9, .inl (cI f2))), (a5, .inl (T 0, 9, .inl (cI f3))), (a6, .inl (T 0, 9, .inl (cI f4))), (a7, .inl (T 0, 9, .inl (cI f5))), (a8, .inl (T 1, 3, .inr (.inl h1))), (a9, .inl (T 0, 3, .inl (cI f6)))]) M w 0 10 clX9 rfl (by decide) G393 rfl rfl rfl rfl (Nat.le_of_ble_eq_true rfl) rfl dX9_clear_7 (fun H locs w => ?_)
  refine lv_aload_n hx hb dX9_clear_10 rfl (lv_at hl 0 rfl) ?_
  refine lv_iconst (v := iI 0) hx hb dX9_clear_11 (by decide +kernel) ?_
  refine r_put (ws' := [(a0, .inr (9, [.ref a1, .ref a2, .ref a3, .ref a4, .ref a5, .ref a6, .ref a7, .ref a8, .ref a9, .int (iI 0), .int (iI 0), .int (iI x2), .int (iI 0), .int (iI x4), .int (iI x5), .int (iI x6), .int (iI x7), .int (iI x8)])), (a1, .inl (T 1, 9, .inr (.inl h0))), (a2, .inl (T 0, 9, .inl (cI f0))), (a3, .inl (T 0, 9, .inl (cI f1))), (a4, .inl (T 0, 9, .inl (cI f2))), (a5, .inl (T 0, 9, .inl (cI f3))), (a6, .inl (T 0, 9, .inl (cI f4))), (a7, .inl (T 0, 9, .inl (cI f5))), (a8, .inl (T 1, 3, .inr (.inl h1))), (a9, .inl (T 0, 3, .inl (cI f6)))]) M w 0 12 clX9 rfl (by decide) G398 rfl rfl rfl rfl (Nat.le_of_ble_eq_true rfl) rfl dX9_clear_12 (fun H locs w => ?_)
  refine lv_aload_n hx hb dX9_clear_15 rfl (lv_at hl 0 rfl) ?_
  refine lv_bipush (v := iI 12) hx hb dX9_clear_16 (by decide +kernel) ?_
  refine r_put (ws' := [(a0, .inr (9, [.ref a1, .ref a2, .ref a3, .ref a4, .ref a5, .ref a6, .ref a7, .ref a8, .ref a9, .int (iI 0), .int (iI 0), .int (iI x2), .int (iI 0), .int (iI 12), .int (iI x5), .int (iI x6), .int (iI x7), .int (iI x8)])), (a1, .inl (T 1, 9, .inr (.inl h0))), (a2, .inl (T 0, 9, .inl (cI f0))), (a3, .inl (T 0, 9, .inl (cI f1))), (a4, .inl (T 0, 9, .inl (cI f2))), (a5, .inl (T 0, 9, .inl (cI f3))), (a6, .inl (T 0, 9, .inl (cI f4))), (a7, .inl (T 0, 9, .inl (cI f5))), (a8, .inl (T 1, 3, .inr (.inl h1))), (a9, .inl (T 0, 3, .inl (cI f6)))]) M w 0 13 clX9 rfl (by decide) G400 rfl rfl rfl rfl (Nat.le_of_ble_eq_true rfl) rfl dX9_clear_18 (fun H locs w => ?_)
  refine lv_aload_n hx hb dX9_clear_21 rfl (lv_at hl 0 rfl) ?_
  refine lv_iconst (v := iI 1) hx hb dX9_clear_22 (by decide +kernel) ?_
  refine r_put (ws' := [(a0, .inr (9, [.ref a1, .ref a2, .ref a3, .ref a4, .ref a5, .ref a6, .ref a7, .ref a8, .ref a9, .int (iI 0), .int (iI 0), .int (iI x2), .int (iI 0), .int (iI 12), .int (iI 1), .int (iI x6), .int (iI x7), .int (iI x8)])), (a1, .inl (T 1, 9, .inr (.inl h0))), (a2, .inl (T 0, 9, .inl (cI f0))), (a3, .inl (T 0, 9, .inl (cI f1))), (a4, .inl (T 0, 9, .inl (cI f2))), (a5, .inl (T 0, 9, .inl (cI f3))), (a6, .inl (T 0, 9, .inl (cI f4))), (a7, .inl (T 0, 9, .inl (cI f5))), (a8, .inl (T 1, 3, .inr (.inl h1))), (a9, .inl (T 0, 3, .inl (cI f6)))]) M w 0 14 clX9 rfl (by decide) G402 rfl rfl rfl rfl (Nat.le_of_ble_eq_true rfl) rfl dX9_clear_23 (fun H locs w => ?_)
  refine lv_aload_n hx hb dX9_clear_26 rfl (lv_at hl 0 rfl) ?_
  refine lv_iconst (v := iI 0) hx hb dX9_clear_27 (by decide +kernel) ?_
  refine r_put (ws' := [(a0, .inr (9, [.ref a1, .ref a2, .ref a3, .ref a4, .ref a5, .ref a6, .ref a7, .ref a8, .ref a9, .int (iI 0), .int (iI 0), .int (iI x2), .int (iI 0), .int (iI 12), .int (iI 1), .int (iI 0), .int (iI x7), .int (iI x8)])), (a1, .inl (T 1, 9, .inr (.inl h0))), (a2, .inl (T 0, 9, .inl (cI f0))), (a3, .inl (T 0, 9, .inl (cI f1))), (a4, .inl (T 0, 9, .inl (cI f2))), (a5, .inl (T 0, 9, .inl (cI f3))), (a6, .inl (T 0, 9, .inl (cI f4))), (a7, .inl (T 0, 9, .inl (cI f5))), (a8, .inl (T 1, 3, .inr (.inl h1))), (a9, .inl (T 0, 3, .inl (cI f6)))]) M w 0 15 clX9 rfl (by decide) G404 rfl rfl (by decide +kernel) (by decide +kernel) (Nat.le_of_ble_eq_true rfl) rfl dX9_clear_28 (fun H locs w => ?_)
  refine lv_aload_n hx hb dX9_clear_31 rfl (lv_at hl 0 rfl) ?_
  refine lv_iconst (v := iI 0) hx hb dX9_clear_32 (by decide +kernel) ?_
  refine r_put (ws' := [(a0, .inr (9, [.ref a1, .ref a2, .ref a3, .ref a4, .ref a5, .ref a6, .ref a7, .ref a8, .ref a9, .int (iI 0), .int (iI 0), .int (iI x2), .int (iI 0), .int (iI 12), .int (iI 1), .int (iI 0), .int (iI 0), .int (iI x8)])), (a1, .inl (T 1, 9, .inr (.inl h0))), (a2, .inl (T 0, 9, .inl (cI f0))), (a3, .inl (T 0, 9, .inl (cI f1))), (a4, .inl (T 0, 9, .inl (cI f2))), (a5, .inl (T 0, 9, .inl (cI f3))), (a6, .inl (T 0, 9, .inl (cI f4))), (a7, .inl (T 0, 9, .inl (cI f5))), (a8, .inl (T 1, 3, .inr (.inl h1))), (a9, .inl (T 0, 3, .inl (cI f6)))]) M w 0 16 clX9 rfl (by decide) G405 rfl rfl (by decide +kernel) (by decide +kernel) (Nat.le_of_ble_eq_true rfl) rfl dX9_clear_33 (fun H locs w => ?_)
  refine lv_aload_n hx hb dX9_clear_36 rfl (lv_at hl 0 rfl) ?_
  refine lv_iconst (v := iI 0) hx hb dX9_clear_37 (by decide +kernel) ?_
  refine r_put (ws' := [(a0, .inr (9, [.ref a1, .ref a2, .ref a3, .ref a4, .ref a5, .ref a6, .ref a7, .ref a8, .ref a9, .int (iI 0), .int (iI 0), .int (iI x2), .int (iI 0), .int (iI 12), .int (iI 1), .int (iI 0), .int (iI 0), .int (iI 0)])), (a1, .inl (T 1, 9, .inr (.inl h0))), (a2, .inl (T 0, 9, .inl (cI f0))), (a3, .inl (T 0, 9, .inl (cI f1))), (a4, .inl (T 0, 9, .inl (cI f2))), (a5, .inl (T 0, 9, .inl (cI f3))), (a6, .inl (T 0, 9, .inl (cI f4))), (a7, .inl (T 0, 9, .inl (cI f5))), (a8, .inl (T 1, 3, .inr (.inl h1))), (a9, .inl (T 0, 3, .inl (cI f6)))]) M w 0 17 clX9 rfl (by decide) G406 rfl rfl (by decide +kernel) (by decide +kernel) (Nat.le_of_ble_eq_true rfl) rfl dX9_clear_38 (fun H locs w => ?_)
  refine lv_aload_n hx hb dX9_clear_41 rfl (lv_at hl 0 rfl) ?_
  refine r_get (v := .ref a5) M w 0 4 clX9 rfl (by decide) G375 rfl rfl dX9_clear_42 ?_
  refine lv_iconst (v := iI 0) hx hb dX9_clear_45 (by decide +kernel) ?_
  refine k_V (ce := 0) (sl := 0) (rest := []) (wr := [(a0, .inr (9, [.ref a1, .ref a2, .ref a3, .ref a4, .ref a5, .ref a6, .ref a7, .ref a8, .ref a9, .int (iI 0), .int (iI 0), .int (iI x2), .int (iI 0), .int (iI 12), .int (iI 1), .int (iI 0), .int (iI 0), .int (iI 0)])), (a1, .inl (T 1, 9, .inr (.inl h0))), (a2, .inl (T 0, 9, .inl (cI f0))), (a3, .inl (T 0, 9, .inl (cI f1))), (a4, .inl (T 0, 9, .inl (cI f2))), (a6, .inl (T 0, 9, .inl (cI f4))), (a7, .inl (T 0, 9, .inl (cI f5))), (a8, .inl (T 1, 3, .inr (.inl h1))), (a9, .inl (T 0, 3, .inl (cI f6)))]) (r_S (f := 0) [5] M w V_HookedCity_Town_69 G290 (c274_J7_fill_53178 l D T _ a5 0 f3 (by decide) (by decide) f3_h) rfl (by decide) rfl hl.1 rfl (Nat.le_of_ble_eq_true rfl) dX9_clear_46 (by decide) (by decide) (by decide) (by decide)) w [5] [0, 1, 2, 3, 4, 6, 7, 8, 9] rfl rfl (by decide) (by decide) rfl rfl (fun ff1 H locs hp w => ?_)
  have ff1_h : rng 0 511 ff1 := hp.1
  have pq2 : ∀ i : Int, 0 ≤ i → i < 9 → ff1 i = 0 := hp.2
  have w : WD D A s.heap [(a0, .inr (9, [.ref a1, .ref a2, .ref a3, .ref a4, .ref a5, .ref a6, .ref a7, .ref a8, .ref a9, .int (iI 0), .int (iI 0), .int (iI x2), .int (iI 0), .int (iI 12), .int (iI 1), .int (iI 0), .int (iI 0), .int (iI 0)])), (a1, .inl (T 1, 9, .inr (.inl h0))), (a2, .inl (T 0, 9, .inl (cI f0))), (a3, .inl (T 0, 9, .inl (cI f1))), (a4, .inl (T 0, 9, .inl (cI f2))), (a6, .inl (T 0, 9, .inl (cI f4))), (a7, .inl (T 0, 9, .inl (cI f5))), (a8, .inl (T 1, 3, .inr (.inl h1))), (a9, .inl (T 0, 3, .inl (cI f6))), (a5, .inl (T 0, 9, .inl (cI ff1)))] H locs := w
  refine lv_aload_n hx hb dX9_clear_49 rfl (lv_at hl 0 rfl) ?_
  refine r_get (v := .ref a6) M w 0 5 clX9 rfl (by decide) G379 rfl rfl dX9_clear_50 ?_
  refine lv_iconst (v := iI (-1)) hx hb dX9_clear_53 (by decide +kernel) ?_
  refine k_V (ce := 0) (sl := 0) (rest := []) (wr := [(a0, .inr (9, [.ref a1, .ref a2, .ref a3, .ref a4, .ref a5, .ref a6, .ref a7, .ref a8, .ref a9, .int (iI 0), .int (iI 0), .int (iI x2), .int (iI 0), .int (iI 12), .int (iI 1), .int (iI 0), .int (iI 0), .int (iI 0)])), (a1, .inl (T 1, 9, .inr (.inl h0))), (a2, .inl (T 0, 9, .inl (cI f0))), (a3, .inl (T 0, 9, .inl (cI f1))), (a4, .inl (T 0, 9, .inl (cI f2))), (a7, .inl (T 0, 9, .inl (cI f5))), (a8, .inl (T 1, 3, .inr (.inl h1))), (a9, .inl (T 0, 3, .inl (cI f6))), (a5, .inl (T 0, 9, .inl (cI ff1)))]) (r_S (f := 0) [5] M w V_HookedCity_Town_69 G290 (c275_J7_fill_53178 l D T _ a6 (-1) f4 (by decide) (by decide) f4_h) rfl (by decide) rfl hl.1 rfl (Nat.le_of_ble_eq_true rfl) dX9_clear_54 (by decide) (by decide) (by decide) (by decide)) w [5] [0, 1, 2, 3, 4, 6, 7, 8, 9] rfl rfl (by decide) (by decide) rfl rfl (fun ff3 H locs hp w => ?_)
  have ff3_h : rng (-1) 8 ff3 := hp.1
  have pq4 : ∀ i : Int, 0 ≤ i → i < 9 → ff3 i = (-1) := hp.2
  have w : WD D A s.heap [(a0, .inr (9, [.ref a1, .ref a2, .ref a3, .ref a4, .ref a5, .ref a6, .ref a7, .ref a8, .ref a9, .int (iI 0), .int (iI 0), .int (iI x2), .int (iI 0), .int (iI 12), .int (iI 1), .int (iI 0), .int (iI 0), .int (iI 0)])), (a1, .inl (T 1, 9, .inr (.inl h0))), (a2, .inl (T 0, 9, .inl (cI f0))), (a3, .inl (T 0, 9, .inl (cI f1))), (a4, .inl (T 0, 9, .inl (cI f2))), (a7, .inl (T 0, 9, .inl (cI f5))), (a8, .inl (T 1, 3, .inr (.inl h1))), (a9, .inl (T 0, 3, .inl (cI f6))), (a5, .inl (T 0, 9, .inl (cI ff1))), (a6, .inl (T 0, 9, .inl (cI ff3)))] H locs := w
  refine lv_aload_n hx hb dX9_clear_57 rfl (lv_at hl 0 rfl) ?_
  refine r_get (v := .ref a7) M w 0 6 clX9 rfl (by decide) G381 rfl rfl dX9_clear_58 ?_
  refine lv_iconst (v := iI (-1)) hx hb dX9_clear_61 (by decide +kernel) ?_
  refine k_V (ce := 0) (sl := 0) (rest := []) (wr := [(a0, .inr (9, [.ref a1, .ref a2, .ref a3, .ref a4, .ref a5, .ref a6, .ref a7, .ref a8, .ref a9, .int (iI 0), .int (iI 0), .int (iI x2), .int (iI 0), .int (iI 12), .int (iI 1), .int (iI 0), .int (iI 0), .int (iI 0)])), (a1, .inl (T 1, 9, .inr (.inl h0))), (a2, .inl (T 0, 9, .inl (cI f0))), (a3, .inl (T 0, 9, .inl (cI f1))), (a4, .inl (T 0, 9, .inl (cI f2))), (a8, .inl (T 1, 3, .inr (.inl h1))), (a9, .inl (T 0, 3, .inl (cI f6))), (a5, .inl (T 0, 9, .inl (cI ff1))), (a6, .inl (T 0, 9, .inl (cI ff3)))]) (r_S (f := 0) [5] M w V_HookedCity_Town_69 G290 (c275_J7_fill_53178 l D T _ a7 (-1) f5 (by decide) (by decide) f5_h) rfl (by decide) rfl hl.1 rfl (Nat.le_of_ble_eq_true rfl) dX9_clear_62 (by decide) (by decide) (by decide) (by decide)) w [5] [0, 1, 2, 3, 4, 6, 7, 8, 9] rfl rfl (by decide) (by decide) rfl rfl (fun ff5 H locs hp w => ?_)
  have ff5_h : rng (-1) 8 ff5 := hp.1
  have pq6 : ∀ i : Int, 0 ≤ i → i < 9 → ff5 i = (-1) := hp.2
  have w : WD D A s.heap [(a0, .inr (9, [.ref a1, .ref a2, .ref a3, .ref a4, .ref a5, .ref a6, .ref a7, .ref a8, .ref a9, .int (iI 0), .int (iI 0), .int (iI x2), .int (iI 0), .int (iI 12), .int (iI 1), .int (iI 0), .int (iI 0), .int (iI 0)])), (a1, .inl (T 1, 9, .inr (.inl h0))), (a2, .inl (T 0, 9, .inl (cI f0))), (a3, .inl (T 0, 9, .inl (cI f1))), (a4, .inl (T 0, 9, .inl (cI f2))), (a8, .inl (T 1, 3, .inr (.inl h1))), (a9, .inl (T 0, 3, .inl (cI f6))), (a5, .inl (T 0, 9, .inl (cI ff1))), (a6, .inl (T 0, 9, .inl (cI ff3))), (a7, .inl (T 0, 9, .inl (cI ff5)))] H locs := w
  exact ret (0, 0, 0, 12, 1, 0, 0, 0, ff1, ff3, ff5) _ _ _ _ _ [0, 1, 2, 3, 4, 7, 8, 9, 5, 6] dX9_clear_65 ⟨(show (0 : Int) ≤ 0 from by decide), (show (0 : Int) ≤ 9 from by decide), (show (0 : Int) ≤ 0 from by decide), (show (0 : Int) ≤ 3 from by decide), (show (-2147483648) ≤ 0 from by decide), (show (0 : Int) ≤ 2147483647 from by decide), (show (-2147483648) ≤ 12 from by decide), (show (12 : Int) ≤ 2147483647 from by decide), (show (-2147483648) ≤ 1 from by decide), (show (1 : Int) ≤ 2147483647 from by decide), (show (0 : Int) ≤ 0 from by decide), (show (0 : Int) ≤ 1 from by decide), (show (0 : Int) ≤ 0 from by decide), (show (0 : Int) ≤ 1 from by decide), (show (0 : Int) ≤ 0 from by decide), (show (0 : Int) ≤ 1 from by decide), ff1_h, ff3_h, ff5_h, (show cl0 ff1 ff3 ff5 0 0 0 12 1 0 0 0 from ⟨rfl, rfl, rfl, rfl, rfl, rfl, rfl, rfl, pq2, pq4, pq6⟩)⟩ w (by decide) rfl
set_option maxRecDepth 100000 in
set_option maxHeartbeats 4000000 in
theorem c277_X9_copy (l : Launch) (D : va_G) (T : Nat → ClassId) (sz : Nat) (a0 : Nat) (a1 : Nat) (a2 : Nat) (a3 : Nat) (a4 : Nat) (a5 : Nat) (a6 : Nat) (a7 : Nat) (a8 : Nat) (a9 : Nat) (a10 : Nat) (x0 : Int) (x1 : Int) (x2 : Int) (x3 : Int) (x4 : Int) (x5 : Int) (x6 : Int) (x7 : Int) (x8 : Int) (a11 : Nat) (a12 : Nat) (a13 : Nat) (a14 : Nat) (a15 : Nat) (a16 : Nat) (a17 : Nat) (a18 : Nat) (a19 : Nat) (x9 : Int) (x10 : Int) (x11 : Int) (x12 : Int) (x13 : Int) (x14 : Int) (x15 : Int) (x16 : Int) (x17 : Int) (h0 : Nat → Int64) (f0 : Int → Int) (f1 : Int → Int) (f2 : Int → Int) (f3 : Int → Int) (h1 : Nat → Int64) (f4 : Int → Int) (h2 : Nat → Int64) (f5 : Int → Int) (f6 : Int → Int) (f7 : Int → Int) (f8 : Int → Int) (h3 : Nat → Int64) (f9 : Int → Int) (x0_a : 0 ≤ x0) (x0_b : x0 ≤ 9) (x1_a : 0 ≤ x1) (x1_b : x1 ≤ 3) (x2_a : 0 ≤ x2) (x2_b : x2 ≤ 900) (x3_a : (-2147483648) ≤ x3) (x3_b : x3 ≤ 2147483647) (x4_a : (-2147483648) ≤ x4) (x4_b : x4 ≤ 2147483647) (x5_a : (-2147483648) ≤ x5) (x5_b : x5 ≤ 2147483647) (x6_a : 0 ≤ x6) (x6_b : x6 ≤ 1) (x7_a : 0 ≤ x7) (x7_b : x7 ≤ 1) (x8_a : 0 ≤ x8) (x8_b : x8 ≤ 1) (x9_a : 0 ≤ x9) (x9_b : x9 ≤ 9) (x10_a : 0 ≤ x10) (x10_b : x10 ≤ 3) (x11_a : 0 ≤ x11) (x11_b : x11 ≤ 900) (x12_a : (-2147483648) ≤ x12) (x12_b : x12 ≤ 2147483647) (x13_a : (-2147483648) ≤ x13) (x13_b : x13 ≤ 2147483647) (x14_a : (-2147483648) ≤ x14) (x14_b : x14 ≤ 2147483647) (x15_a : 0 ≤ x15) (x15_b : x15 ≤ 1) (x16_a : 0 ≤ x16) (x16_b : x16 ≤ 1) (x17_a : 0 ≤ x17) (x17_b : x17 ≤ 1) (f0_h : rng (-2147483648) 2147483647 f0) (f1_h : rng (-2147483648) 2147483647 f1) (f2_h : rng (-2147483648) 2147483647 f2) (f3_h : rng 0 511 f3) (f4_h : rng (-2147483648) 2147483647 f4) (f5_h : rng (-2147483648) 2147483647 f5) (f6_h : rng (-2147483648) 2147483647 f6) (f7_h : rng (-2147483648) 2147483647 f7) (f8_h : rng 0 511 f8) (f9_h : rng (-2147483648) 2147483647 f9) : Met l yX9_copy (Cond.code yX9_copy cX9_copy 2 none :: GW) (Rm 1 0 0) (cPre [.ref a0, .ref a1] D T [(a0, .inr (9, [.ref a2, .ref a3, .ref a4, .ref a5, .ref a6, .ref a7, .ref a8, .ref a9, .ref a10, .int (iI x0), .int (iI x1), .int (iI x2), .int (iI x3), .int (iI x4), .int (iI x5), .int (iI x6), .int (iI x7), .int (iI x8)])), (a1, .inr (9, [.ref a11, .ref a12, .ref a13, .ref a14, .ref a15, .ref a16, .ref a17, .ref a18, .ref a19, .int (iI x9), .int (iI x10), .int (iI x11), .int (iI x12), .int (iI x13), .int (iI x14), .int (iI x15), .int (iI x16), .int (iI x17)])), (a2, .inl (T 1, 9, .inr (.inl h0))), (a3, .inl (T 0, 9, .inl (cI f0))), (a4, .inl (T 0, 9, .inl (cI f1))), (a5, .inl (T 0, 9, .inl (cI f2))), (a6, .inl (T 0, 9, .inl (cI f3))), (a9, .inl (T 1, 3, .inr (.inl h1))), (a10, .inl (T 0, 3, .inl (cI f4))), (a11, .inl (T 1, 9, .inr (.inl h2))), (a12, .inl (T 0, 9, .inl (cI f5))), (a13, .inl (T 0, 9, .inl (cI f6))), (a14, .inl (T 0, 9, .inl (cI f7))), (a15, .inl (T 0, 9, .inl (cI f8))), (a18, .inl (T 1, 3, .inr (.inl h3))), (a19, .inl (T 0, 3, .inl (cI f9)))] sz) (qV D [(a0, .inr (9, [.ref a2, .ref a3, .ref a4, .ref a5, .ref a6, .ref a7, .ref a8, .ref a9, .ref a10, .int (iI x0), .int (iI x1), .int (iI x2), .int (iI x3), .int (iI x4), .int (iI x5), .int (iI x6), .int (iI x7), .int (iI x8)])), (a1, .inr (9, [.ref a11, .ref a12, .ref a13, .ref a14, .ref a15, .ref a16, .ref a17, .ref a18, .ref a19, .int (iI x9), .int (iI x10), .int (iI x11), .int (iI x12), .int (iI x13), .int (iI x14), .int (iI x15), .int (iI x16), .int (iI x17)])), (a2, .inl (T 1, 9, .inr (.inl h0))), (a3, .inl (T 0, 9, .inl (cI f0))), (a4, .inl (T 0, 9, .inl (cI f1))), (a5, .inl (T 0, 9, .inl (cI f2))), (a6, .inl (T 0, 9, .inl (cI f3))), (a9, .inl (T 1, 3, .inr (.inl h1))), (a10, .inl (T 0, 3, .inl (cI f4))), (a11, .inl (T 1, 9, .inr (.inl h2))), (a12, .inl (T 0, 9, .inl (cI f5))), (a13, .inl (T 0, 9, .inl (cI f6))), (a14, .inl (T 0, 9, .inl (cI f7))), (a15, .inl (T 0, 9, .inl (cI f8))), (a18, .inl (T 1, 3, .inr (.inl h3))), (a19, .inl (T 0, 3, .inl (cI f9)))] sz (fun (u : Int × Int × Int × Int × (Nat → Int64) × (Int → Int) × (Int → Int) × (Int → Int) × (Int → Int) × (Nat → Int64) × (Int → Int)) => 0 ≤ u.1 ∧ u.1 ≤ 9 ∧ 0 ≤ u.2.1 ∧ u.2.1 ≤ 3 ∧ (-2147483648) ≤ u.2.2.1 ∧ u.2.2.1 ≤ 2147483647 ∧ (-2147483648) ≤ u.2.2.2.1 ∧ u.2.2.2.1 ≤ 2147483647 ∧ rng (-2147483648) 2147483647 u.2.2.2.2.2.1 ∧ rng (-2147483648) 2147483647 u.2.2.2.2.2.2.1 ∧ rng (-2147483648) 2147483647 u.2.2.2.2.2.2.2.1 ∧ rng 0 511 u.2.2.2.2.2.2.2.2.1 ∧ rng (-2147483648) 2147483647 u.2.2.2.2.2.2.2.2.2.2 ∧ (cpW h2 f5 f6 f7 f8 h3 f9 x9 x10 x13 x14 u.2.2.2.2.1 u.2.2.2.2.2.1 u.2.2.2.2.2.2.1 u.2.2.2.2.2.2.2.1 u.2.2.2.2.2.2.2.2.1 u.2.2.2.2.2.2.2.2.2.1 u.2.2.2.2.2.2.2.2.2.2 u.1 u.2.1 u.2.2.1 u.2.2.2.1)) (fun u => [(a0, .inr (9, [.ref a2, .ref a3, .ref a4, .ref a5, .ref a6, .ref a7, .ref a8, .ref a9, .ref a10, .int (iI u.1), .int (iI u.2.1), .int (iI x2), .int (iI x3), .int (iI u.2.2.1), .int (iI u.2.2.2.1), .int (iI x6), .int (iI x7), .int (iI x8)])), (a1, .inr (9, [.ref a11, .ref a12, .ref a13, .ref a14, .ref a15, .ref a16, .ref a17, .ref a18, .ref a19, .int (iI x9), .int (iI x10), .int (iI x11), .int (iI x12), .int (iI x13), .int (iI x14), .int (iI x15), .int (iI x16), .int (iI x17)])), (a2, .inl (T 1, 9, .inr (.inl u.2.2.2.2.1))), (a3, .inl (T 0, 9, .inl (cI u.2.2.2.2.2.1))), (a4, .inl (T 0, 9, .inl (cI u.2.2.2.2.2.2.1))), (a5, .inl (T 0, 9, .inl (cI u.2.2.2.2.2.2.2.1))), (a6, .inl (T 0, 9, .inl (cI u.2.2.2.2.2.2.2.2.1))), (a9, .inl (T 1, 3, .inr (.inl u.2.2.2.2.2.2.2.2.2.1))), (a10, .inl (T 0, 3, .inl (cI u.2.2.2.2.2.2.2.2.2.2))), (a11, .inl (T 1, 9, .inr (.inl h2))), (a12, .inl (T 0, 9, .inl (cI f5))), (a13, .inl (T 0, 9, .inl (cI f6))), (a14, .inl (T 0, 9, .inl (cI f7))), (a15, .inl (T 0, 9, .inl (cI f8))), (a18, .inl (T 1, 3, .inr (.inl h3))), (a19, .inl (T 0, 3, .inl (cI f9)))])) 0 0 (va_A [(a0, .inr (9, [.ref a2, .ref a3, .ref a4, .ref a5, .ref a6, .ref a7, .ref a8, .ref a9, .ref a10, .int (iI x0), .int (iI x1), .int (iI x2), .int (iI x3), .int (iI x4), .int (iI x5), .int (iI x6), .int (iI x7), .int (iI x8)])), (a1, .inr (9, [.ref a11, .ref a12, .ref a13, .ref a14, .ref a15, .ref a16, .ref a17, .ref a18, .ref a19, .int (iI x9), .int (iI x10), .int (iI x11), .int (iI x12), .int (iI x13), .int (iI x14), .int (iI x15), .int (iI x16), .int (iI x17)])), (a2, .inl (T 1, 9, .inr (.inl h0))), (a3, .inl (T 0, 9, .inl (cI f0))), (a4, .inl (T 0, 9, .inl (cI f1))), (a5, .inl (T 0, 9, .inl (cI f2))), (a6, .inl (T 0, 9, .inl (cI f3))), (a9, .inl (T 1, 3, .inr (.inl h1))), (a10, .inl (T 0, 3, .inl (cI f4))), (a11, .inl (T 1, 9, .inr (.inl h2))), (a12, .inl (T 0, 9, .inl (cI f5))), (a13, .inl (T 0, 9, .inl (cI f6))), (a14, .inl (T 0, 9, .inl (cI f7))), (a15, .inl (T 0, 9, .inl (cI f8))), (a18, .inl (T 1, 3, .inr (.inl h3))), (a19, .inl (T 0, 3, .inl (cI f9)))] sz) := by
  refine e_V (by decide) (Nat.le_of_ble_eq_true rfl) ?_
  intro p e s m args below meth c A Q ls M hin w ret hl
  have hx := M.1.1
  have hb := M.1.2.1
  have hl : lv_has ls 2 [(0, .ref a0), (1, .ref a1)] := hl
  refine lv_aload_n hx hb dX9_copy_0 rfl (lv_at hl 1 rfl) ?_
  refine r_get (v := .ref a11) M w 1 0 clX9 rfl (by decide) G366 rfl rfl dX9_copy_1 ?_
  refine lv_iconst (v := iI 0) hx hb dX9_copy_4 (by decide +kernel) ?_
  refine lv_aload_n hx hb dX9_copy_5 rfl (lv_at hl 0 rfl) ?_
  refine r_get (v := .ref a2) M w 0 0 clX9 rfl (by decide) G366 rfl rfl dX9_copy_6 ?_
  refine lv_iconst (v := iI 0) hx hb dX9_copy_9 (by decide +kernel) ?_
  refine lv_bipush (v := iI 9) hx hb dX9_copy_10 (by decide +kernel) ?_
  refine r_copyl (ws' := [(a0, .inr (9, [.ref a2, .ref a3, .ref a4, .ref a5, .ref a6, .ref a7, .ref a8, .ref a9, .ref a10, .int (iI x0), .int (iI x1), .int (iI x2), .int (iI x3), .int (iI x4), .int (iI x5), .int (iI x6), .int (iI x7), .int (iI x8)])), (a1, .inr (9, [.ref a11, .ref a12, .ref a13, .ref a14, .ref a15, .ref a16, .ref a17, .ref a18, .ref a19, .int (iI x9), .int (iI x10), .int (iI x11), .int (iI x12), .int (iI x13), .int (iI x14), .int (iI x15), .int (iI x16), .int (iI x17)])), (a2, .inl (T 1, 9, .inr (.inl (va_cpy h2 h0 (Int32.toNatClampNeg (iI 0)) (Int32.toNatClampNeg (iI 0)) (Int32.toNatClampNeg (iI 9)))))), (a3, .inl (T 0, 9, .inl (cI f0))), (a4, .inl (T 0, 9, .inl (cI f1))), (a5, .inl (T 0, 9, .inl (cI f2))), (a6, .inl (T 0, 9, .inl (cI f3))), (a9, .inl (T 1, 3, .inr (.inl h1))), (a10, .inl (T 0, 3, .inl (cI f4))), (a11, .inl (T 1, 9, .inr (.inl h2))), (a12, .inl (T 0, 9, .inl (cI f5))), (a13, .inl (T 0, 9, .inl (cI f6))), (a14, .inl (T 0, 9, .inl (cI f7))), (a15, .inl (T 0, 9, .inl (cI f8))), (a18, .inl (T 1, 3, .inr (.inl h3))), (a19, .inl (T 0, 3, .inl (cI f9)))]) M w 9 2 G1348 G796 G795 G140 hl.1 rfl rfl (by decide +kernel) (by decide +kernel) (by decide +kernel) (by decide +kernel) (by decide +kernel) (by decide) (Nat.le_of_ble_eq_true rfl) rfl dX9_copy_12 (fun H locs w => ?_)
  refine lv_aload_n hx hb dX9_copy_15 rfl (lv_at hl 1 rfl) ?_
  refine r_get (v := .ref a12) M w 1 1 clX9 rfl (by decide) G368 rfl rfl dX9_copy_16 ?_
  refine lv_iconst (v := iI 0) hx hb dX9_copy_19 (by decide +kernel) ?_
  refine lv_aload_n hx hb dX9_copy_20 rfl (lv_at hl 0 rfl) ?_
  refine r_get (v := .ref a3) M w 0 1 clX9 rfl (by decide) G368 rfl rfl dX9_copy_21 ?_
  refine lv_iconst (v := iI 0) hx hb dX9_copy_24 (by decide +kernel) ?_
  refine lv_bipush (v := iI 9) hx hb dX9_copy_25 (by decide +kernel) ?_
  refine r_copyi (ws' := [(a0, .inr (9, [.ref a2, .ref a3, .ref a4, .ref a5, .ref a6, .ref a7, .ref a8, .ref a9, .ref a10, .int (iI x0), .int (iI x1), .int (iI x2), .int (iI x3), .int (iI x4), .int (iI x5), .int (iI x6), .int (iI x7), .int (iI x8)])), (a1, .inr (9, [.ref a11, .ref a12, .ref a13, .ref a14, .ref a15, .ref a16, .ref a17, .ref a18, .ref a19, .int (iI x9), .int (iI x10), .int (iI x11), .int (iI x12), .int (iI x13), .int (iI x14), .int (iI x15), .int (iI x16), .int (iI x17)])), (a2, .inl (T 1, 9, .inr (.inl (va_cpy h2 h0 (Int32.toNatClampNeg (iI 0)) (Int32.toNatClampNeg (iI 0)) (Int32.toNatClampNeg (iI 9)))))), (a3, .inl (T 0, 9, .inl (cI (cpz f5 f0 0 0 9)))), (a4, .inl (T 0, 9, .inl (cI f1))), (a5, .inl (T 0, 9, .inl (cI f2))), (a6, .inl (T 0, 9, .inl (cI f3))), (a9, .inl (T 1, 3, .inr (.inl h1))), (a10, .inl (T 0, 3, .inl (cI f4))), (a11, .inl (T 1, 9, .inr (.inl h2))), (a12, .inl (T 0, 9, .inl (cI f5))), (a13, .inl (T 0, 9, .inl (cI f6))), (a14, .inl (T 0, 9, .inl (cI f7))), (a15, .inl (T 0, 9, .inl (cI f8))), (a18, .inl (T 1, 3, .inr (.inl h3))), (a19, .inl (T 0, 3, .inl (cI f9)))]) M w 10 3 G1348 G796 G795 G140 hl.1 rfl rfl (by decide +kernel) (by decide +kernel) (by decide +kernel) (by decide +kernel) (by decide +kernel) (by decide) (Nat.le_of_ble_eq_true rfl) (by rw [cI_cp (by decide) (by decide) (by decide) (by decide) (by decide) (by decide)]; rfl) dX9_copy_27 (fun H locs w => ?_)
  refine lv_aload_n hx hb dX9_copy_30 rfl (lv_at hl 1 rfl) ?_
  refine r_get (v := .ref a13) M w 1 2 clX9 rfl (by decide) G370 rfl rfl dX9_copy_31 ?_
  refine lv_iconst (v := iI 0) hx hb dX9_copy_34 (by decide +kernel) ?_
  refine lv_aload_n hx hb dX9_copy_35 rfl (lv_at hl 0 rfl) ?_
  refine r_get (v := .ref a4) M w 0 2 clX9 rfl (by decide) G370 rfl rfl dX9_copy_36 ?_
  refine lv_iconst (v := iI 0) hx hb dX9_copy_39 (by decide +kernel) ?_
  refine lv_bipush (v := iI 9) hx hb dX9_copy_40 (by decide +kernel) ?_
  refine r_copyi (ws' := [(a0, .inr (9, [.ref a2, .ref a3, .ref a4, .ref a5, .ref a6, .ref a7, .ref a8, .ref a9, .ref a10, .int (iI x0), .int (iI x1), .int (iI x2), .int (iI x3), .int (iI x4), .int (iI x5), .int (iI x6), .int (iI x7), .int (iI x8)])), (a1, .inr (9, [.ref a11, .ref a12, .ref a13, .ref a14, .ref a15, .ref a16, .ref a17, .ref a18, .ref a19, .int (iI x9), .int (iI x10), .int (iI x11), .int (iI x12), .int (iI x13), .int (iI x14), .int (iI x15), .int (iI x16), .int (iI x17)])), (a2, .inl (T 1, 9, .inr (.inl (va_cpy h2 h0 (Int32.toNatClampNeg (iI 0)) (Int32.toNatClampNeg (iI 0)) (Int32.toNatClampNeg (iI 9)))))), (a3, .inl (T 0, 9, .inl (cI (cpz f5 f0 0 0 9)))), (a4, .inl (T 0, 9, .inl (cI (cpz f6 f1 0 0 9)))), (a5, .inl (T 0, 9, .inl (cI f2))), (a6, .inl (T 0, 9, .inl (cI f3))), (a9, .inl (T 1, 3, .inr (.inl h1))), (a10, .inl (T 0, 3, .inl (cI f4))), (a11, .inl (T 1, 9, .inr (.inl h2))), (a12, .inl (T 0, 9, .inl (cI f5))), (a13, .inl (T 0, 9, .inl (cI f6))), (a14, .inl (T 0, 9, .inl (cI f7))), (a15, .inl (T 0, 9, .inl (cI f8))), (a18, .inl (T 1, 3, .inr (.inl h3))), (a19, .inl (T 0, 3, .inl (cI f9)))]) M w 11 4 G1348 G796 G795 G140 hl.1 rfl rfl (by decide +kernel) (by decide +kernel) (by decide +kernel) (by decide +kernel) (by decide +kernel) (by decide) (Nat.le_of_ble_eq_true rfl) (by rw [cI_cp (by decide) (by decide) (by decide) (by decide) (by decide) (by decide)]; rfl) dX9_copy_42 (fun H locs w => ?_)
  refine lv_aload_n hx hb dX9_copy_45 rfl (lv_at hl 1 rfl) ?_
  refine r_get (v := .ref a14) M w 1 3 clX9 rfl (by decide) G372 rfl rfl dX9_copy_46 ?_
  refine lv_iconst (v := iI 0) hx hb dX9_copy_49 (by decide +kernel) ?_
  refine lv_aload_n hx hb dX9_copy_50 rfl (lv_at hl 0 rfl) ?_
  refine r_get (v := .ref a5) M w 0 3 clX9 rfl (by decide) G372 rfl rfl dX9_copy_51 ?_
  refine lv_iconst (v := iI 0) hx hb dX9_copy_54 (by decide +kernel) ?_
  refine lv_bipush (v := iI 9) hx hb dX9_copy_55 (by decide +kernel) ?_
  refine r_copyi (ws' := [(a0, .inr (9, [.ref a2, .ref a3, .ref a4, .ref a5, .ref a6, .ref a7, .ref a8, .ref a9, .ref a10, .int (iI x0), .int (iI x1), .int (iI x2), .int (iI x3), .int (iI x4), .int (iI x5), .int (iI x6), .int (iI x7), .int (iI x8)])), (a1, .inr (9, [.ref a11, .ref a12, .ref a13, .ref a14, .ref a15, .ref a16, .ref a17, .ref a18, .ref a19, .int (iI x9), .int (iI x10), .int (iI x11), .int (iI x12), .int (iI x13), .int (iI x14), .int (iI x15), .int (iI x16), .int (iI x17)])), (a2, .inl (T 1, 9, .inr (.inl (va_cpy h2 h0 (Int32.toNatClampNeg (iI 0)) (Int32.toNatClampNeg (iI 0)) (Int32.toNatClampNeg (iI 9)))))), (a3, .inl (T 0, 9, .inl (cI (cpz f5 f0 0 0 9)))), (a4, .inl (T 0, 9, .inl (cI (cpz f6 f1 0 0 9)))), (a5, .inl (T 0, 9, .inl (cI (cpz f7 f2 0 0 9)))), (a6, .inl (T 0, 9, .inl (cI f3))), (a9, .inl (T 1, 3, .inr (.inl h1))), (a10, .inl (T 0, 3, .inl (cI f4))), (a11, .inl (T 1, 9, .inr (.inl h2))), (a12, .inl (T 0, 9, .inl (cI f5))), (a13, .inl (T 0, 9, .inl (cI f6))), (a14, .inl (T 0, 9, .inl (cI f7))), (a15, .inl (T 0, 9, .inl (cI f8))), (a18, .inl (T 1, 3, .inr (.inl h3))), (a19, .inl (T 0, 3, .inl (cI f9)))]) M w 12 5 G1348 G796 G795 G140 hl.1 rfl rfl (by decide +kernel) (by decide +kernel) (by decide +kernel) (by decide +kernel) (by decide +kernel) (by decide) (Nat.le_of_ble_eq_true rfl) (by rw [cI_cp (by decide) (by decide) (by decide) (by decide) (by decide) (by decide)]; rfl) dX9_copy_57 (fun H locs w => ?_)
  refine lv_aload_n hx hb dX9_copy_60 rfl (lv_at hl 1 rfl) ?_
  refine r_get (v := .ref a15) M w 1 4 clX9 rfl (by decide) G375 rfl rfl dX9_copy_61 ?_
  refine lv_iconst (v := iI 0) hx hb dX9_copy_64 (by decide +kernel) ?_
  refine lv_aload_n hx hb dX9_copy_65 rfl (lv_at hl 0 rfl) ?_
  refine r_get (v := .ref a6) M w 0 4 clX9 rfl (by decide) G375 rfl rfl dX9_copy_66 ?_
  refine lv_iconst (v := iI 0) hx hb dX9_copy_69 (by decide +kernel) ?_
  refine lv_bipush (v := iI 9) hx hb dX9_copy_70 (by decide +kernel) ?_
  refine r_copyi (ws' := [(a0, .inr (9, [.ref a2, .ref a3, .ref a4, .ref a5, .ref a6, .ref a7, .ref a8, .ref a9, .ref a10, .int (iI x0), .int (iI x1), .int (iI x2), .int (iI x3), .int (iI x4), .int (iI x5), .int (iI x6), .int (iI x7), .int (iI x8)])), (a1, .inr (9, [.ref a11, .ref a12, .ref a13, .ref a14, .ref a15, .ref a16, .ref a17, .ref a18, .ref a19, .int (iI x9), .int (iI x10), .int (iI x11), .int (iI x12), .int (iI x13), .int (iI x14), .int (iI x15), .int (iI x16), .int (iI x17)])), (a2, .inl (T 1, 9, .inr (.inl (va_cpy h2 h0 (Int32.toNatClampNeg (iI 0)) (Int32.toNatClampNeg (iI 0)) (Int32.toNatClampNeg (iI 9)))))), (a3, .inl (T 0, 9, .inl (cI (cpz f5 f0 0 0 9)))), (a4, .inl (T 0, 9, .inl (cI (cpz f6 f1 0 0 9)))), (a5, .inl (T 0, 9, .inl (cI (cpz f7 f2 0 0 9)))), (a6, .inl (T 0, 9, .inl (cI (cpz f8 f3 0 0 9)))), (a9, .inl (T 1, 3, .inr (.inl h1))), (a10, .inl (T 0, 3, .inl (cI f4))), (a11, .inl (T 1, 9, .inr (.inl h2))), (a12, .inl (T 0, 9, .inl (cI f5))), (a13, .inl (T 0, 9, .inl (cI f6))), (a14, .inl (T 0, 9, .inl (cI f7))), (a15, .inl (T 0, 9, .inl (cI f8))), (a18, .inl (T 1, 3, .inr (.inl h3))), (a19, .inl (T 0, 3, .inl (cI f9)))]) M w 13 6 G1348 G796 G795 G140 hl.1 rfl rfl (by decide +kernel) (by decide +kernel) (by decide +kernel) (by decide +kernel) (by decide +kernel) (by decide) (Nat.le_of_ble_eq_true rfl) (by rw [cI_cp (by decide) (by decide) (by decide) (by decide) (by decide) (by decide)]; rfl) dX9_copy_72 (fun H locs w => ?_)
  refine lv_aload_n hx hb dX9_copy_75 rfl (lv_at hl 1 rfl) ?_
  refine r_get (v := .ref a18) M w 1 7 clX9 rfl (by decide) G383 rfl rfl dX9_copy_76 ?_
  refine lv_iconst (v := iI 0) hx hb dX9_copy_79 (by decide +kernel) ?_
  refine lv_aload_n hx hb dX9_copy_80 rfl (lv_at hl 0 rfl) ?_
  refine r_get (v := .ref a9) M w 0 7 clX9 rfl (by decide) G383 rfl rfl dX9_copy_81 ?_
  refine lv_iconst (v := iI 0) hx hb dX9_copy_84 (by decide +kernel) ?_
  refine lv_iconst (v := iI 3) hx hb dX9_copy_85 (by decide +kernel) ?_
  refine r_copyl (ws' := [(a0, .inr (9, [.ref a2, .ref a3, .ref a4, .ref a5, .ref a6, .ref a7, .ref a8, .ref a9, .ref a10, .int (iI x0), .int (iI x1), .int (iI x2), .int (iI x3), .int (iI x4), .int (iI x5), .int (iI x6), .int (iI x7), .int (iI x8)])), (a1, .inr (9, [.ref a11, .ref a12, .ref a13, .ref a14, .ref a15, .ref a16, .ref a17, .ref a18, .ref a19, .int (iI x9), .int (iI x10), .int (iI x11), .int (iI x12), .int (iI x13), .int (iI x14), .int (iI x15), .int (iI x16), .int (iI x17)])), (a2, .inl (T 1, 9, .inr (.inl (va_cpy h2 h0 (Int32.toNatClampNeg (iI 0)) (Int32.toNatClampNeg (iI 0)) (Int32.toNatClampNeg (iI 9)))))), (a3, .inl (T 0, 9, .inl (cI (cpz f5 f0 0 0 9)))), (a4, .inl (T 0, 9, .inl (cI (cpz f6 f1 0 0 9)))), (a5, .inl (T 0, 9, .inl (cI (cpz f7 f2 0 0 9)))), (a6, .inl (T 0, 9, .inl (cI (cpz f8 f3 0 0 9)))), (a9, .inl (T 1, 3, .inr (.inl (va_cpy h3 h1 (Int32.toNatClampNeg (iI 0)) (Int32.toNatClampNeg (iI 0)) (Int32.toNatClampNeg (iI 3)))))), (a10, .inl (T 0, 3, .inl (cI f4))), (a11, .inl (T 1, 9, .inr (.inl h2))), (a12, .inl (T 0, 9, .inl (cI f5))), (a13, .inl (T 0, 9, .inl (cI f6))), (a14, .inl (T 0, 9, .inl (cI f7))), (a15, .inl (T 0, 9, .inl (cI f8))), (a18, .inl (T 1, 3, .inr (.inl h3))), (a19, .inl (T 0, 3, .inl (cI f9)))]) M w 14 7 G1348 G796 G795 G140 hl.1 rfl rfl (by decide +kernel) (by decide +kernel) (by decide +kernel) (by decide +kernel) (by decide +kernel) (by decide) (Nat.le_of_ble_eq_true rfl) rfl dX9_copy_86 (fun H locs w => ?_)
  refine lv_aload_n hx hb dX9_copy_89 rfl (lv_at hl 1 rfl) ?_
  refine r_get (v := .ref a19) M w 1 8 clX9 rfl (by decide) G384 rfl rfl dX9_copy_90 ?_
  refine lv_iconst (v := iI 0) hx hb dX9_copy_93 (by decide +kernel) ?_
  refine lv_aload_n hx hb dX9_copy_94 rfl (lv_at hl 0 rfl) ?_
  refine r_get (v := .ref a10) M w 0 8 clX9 rfl (by decide) G384 rfl rfl dX9_copy_95 ?_
  refine lv_iconst (v := iI 0) hx hb dX9_copy_98 (by decide +kernel) ?_
  refine lv_iconst (v := iI 3) hx hb dX9_copy_99 (by decide +kernel) ?_
  refine r_copyi (ws' := [(a0, .inr (9, [.ref a2, .ref a3, .ref a4, .ref a5, .ref a6, .ref a7, .ref a8, .ref a9, .ref a10, .int (iI x0), .int (iI x1), .int (iI x2), .int (iI x3), .int (iI x4), .int (iI x5), .int (iI x6), .int (iI x7), .int (iI x8)])), (a1, .inr (9, [.ref a11, .ref a12, .ref a13, .ref a14, .ref a15, .ref a16, .ref a17, .ref a18, .ref a19, .int (iI x9), .int (iI x10), .int (iI x11), .int (iI x12), .int (iI x13), .int (iI x14), .int (iI x15), .int (iI x16), .int (iI x17)])), (a2, .inl (T 1, 9, .inr (.inl (va_cpy h2 h0 (Int32.toNatClampNeg (iI 0)) (Int32.toNatClampNeg (iI 0)) (Int32.toNatClampNeg (iI 9)))))), (a3, .inl (T 0, 9, .inl (cI (cpz f5 f0 0 0 9)))), (a4, .inl (T 0, 9, .inl (cI (cpz f6 f1 0 0 9)))), (a5, .inl (T 0, 9, .inl (cI (cpz f7 f2 0 0 9)))), (a6, .inl (T 0, 9, .inl (cI (cpz f8 f3 0 0 9)))), (a9, .inl (T 1, 3, .inr (.inl (va_cpy h3 h1 (Int32.toNatClampNeg (iI 0)) (Int32.toNatClampNeg (iI 0)) (Int32.toNatClampNeg (iI 3)))))), (a10, .inl (T 0, 3, .inl (cI (cpz f9 f4 0 0 3)))), (a11, .inl (T 1, 9, .inr (.inl h2))), (a12, .inl (T 0, 9, .inl (cI f5))), (a13, .inl (T 0, 9, .inl (cI f6))), (a14, .inl (T 0, 9, .inl (cI f7))), (a15, .inl (T 0, 9, .inl (cI f8))), (a18, .inl (T 1, 3, .inr (.inl h3))), (a19, .inl (T 0, 3, .inl (cI f9)))]) M w 15 8 G1348 G796 G795 G140 hl.1 rfl rfl (by decide +kernel) (by decide +kernel) (by decide +kernel) (by decide +kernel) (by decide +kernel) (by decide) (Nat.le_of_ble_eq_true rfl) (by rw [cI_cp (by decide) (by decide) (by decide) (by decide) (by decide) (by decide)]; rfl) dX9_copy_100 (fun H locs w => ?_)
  refine lv_aload_n hx hb dX9_copy_103 rfl (lv_at hl 0 rfl) ?_
  refine lv_aload_n hx hb dX9_copy_104 rfl (lv_at hl 1 rfl) ?_
  refine r_get (v := .int (iI x9)) M w 1 9 clX9 rfl (by decide) G387 rfl rfl dX9_copy_105 ?_
  refine r_put (ws' := [(a0, .inr (9, [.ref a2, .ref a3, .ref a4, .ref a5, .ref a6, .ref a7, .ref a8, .ref a9, .ref a10, .int (iI x9), .int (iI x1), .int (iI x2), .int (iI x3), .int (iI x4), .int (iI x5), .int (iI x6), .int (iI x7), .int (iI x8)])), (a1, .inr (9, [.ref a11, .ref a12, .ref a13, .ref a14, .ref a15, .ref a16, .ref a17, .ref a18, .ref a19, .int (iI x9), .int (iI x10), .int (iI x11), .int (iI x12), .int (iI x13), .int (iI x14), .int (iI x15), .int (iI x16), .int (iI x17)])), (a2, .inl (T 1, 9, .inr (.inl (va_cpy h2 h0 (Int32.toNatClampNeg (iI 0)) (Int32.toNatClampNeg (iI 0)) (Int32.toNatClampNeg (iI 9)))))), (a3, .inl (T 0, 9, .inl (cI (cpz f5 f0 0 0 9)))), (a4, .inl (T 0, 9, .inl (cI (cpz f6 f1 0 0 9)))), (a5, .inl (T 0, 9, .inl (cI (cpz f7 f2 0 0 9)))), (a6, .inl (T 0, 9, .inl (cI (cpz f8 f3 0 0 9)))), (a9, .inl (T 1, 3, .inr (.inl (va_cpy h3 h1 (Int32.toNatClampNeg (iI 0)) (Int32.toNatClampNeg (iI 0)) (Int32.toNatClampNeg (iI 3)))))), (a10, .inl (T 0, 3, .inl (cI (cpz f9 f4 0 0 3)))), (a11, .inl (T 1, 9, .inr (.inl h2))), (a12, .inl (T 0, 9, .inl (cI f5))), (a13, .inl (T 0, 9, .inl (cI f6))), (a14, .inl (T 0, 9, .inl (cI f7))), (a15, .inl (T 0, 9, .inl (cI f8))), (a18, .inl (T 1, 3, .inr (.inl h3))), (a19, .inl (T 0, 3, .inl (cI f9)))]) M w 0 9 clX9 rfl (by decide) G387 rfl rfl rfl rfl (Nat.le_of_ble_eq_true rfl) rfl dX9_copy_108 (fun H locs w => ?_)
  refine lv_aload_n hx hb dX9_copy_111 rfl (lv_at hl 0 rfl) ?_
  refine lv_aload_n hx hb dX9_copy_112 rfl (lv_at hl 1 rfl) ?_
  refine r_get (v := .int (iI x10)) M w 1 10 clX9 rfl (by decide) G393 rfl rfl dX9_copy_113 ?_
  refine r_put (ws' := [(a0, .inr (9, [.ref a2, .ref a3, .ref a4, .ref a5, .ref a6, .ref a7, .ref a8, .ref a9, .ref a10, .int (iI x9), .int (iI x10), .int (iI x2), .int (iI x3), .int (iI x4), .int (iI x5), .int (iI x6), .int (iI x7), .int (iI x8)])), (a1, .inr (9, [.ref a11, .ref a12, .ref a13, .ref a14, .ref a15, .ref a16, .ref a17, .ref a18, .ref a19, .int (iI x9), .int (iI x10), .int (iI x11), .int (iI x12), .int (iI x13), .int (iI x14), .int (iI x15), .int (iI x16), .int (iI x17)])), (a2, .inl (T 1, 9, .inr (.inl (va_cpy h2 h0 (Int32.toNatClampNeg (iI 0)) (Int32.toNatClampNeg (iI 0)) (Int32.toNatClampNeg (iI 9)))))), (a3, .inl (T 0, 9, .inl (cI (cpz f5 f0 0 0 9)))), (a4, .inl (T 0, 9, .inl (cI (cpz f6 f1 0 0 9)))), (a5, .inl (T 0, 9, .inl (cI (cpz f7 f2 0 0 9)))), (a6, .inl (T 0, 9, .inl (cI (cpz f8 f3 0 0 9)))), (a9, .inl (T 1, 3, .inr (.inl (va_cpy h3 h1 (Int32.toNatClampNeg (iI 0)) (Int32.toNatClampNeg (iI 0)) (Int32.toNatClampNeg (iI 3)))))), (a10, .inl (T 0, 3, .inl (cI (cpz f9 f4 0 0 3)))), (a11, .inl (T 1, 9, .inr (.inl h2))), (a12, .inl (T 0, 9, .inl (cI f5))), (a13, .inl (T 0, 9, .inl (cI f6))), (a14, .inl (T 0, 9, .inl (cI f7))), (a15, .inl (T 0, 9, .inl (cI f8))), (a18, .inl (T 1, 3, .inr (.inl h3))), (a19, .inl (T 0, 3, .inl (cI f9)))]) M w 0 10 clX9 rfl (by decide) G393 rfl rfl rfl rfl (Nat.le_of_ble_eq_true rfl) rfl dX9_copy_116 (fun H locs w => ?_)
  refine lv_aload_n hx hb dX9_copy_119 rfl (lv_at hl 0 rfl) ?_
  refine lv_aload_n hx hb dX9_copy_120 rfl (lv_at hl 1 rfl) ?_
  refine r_get (v := .int (iI x13)) M w 1 13 clX9 rfl (by decide) G400 rfl rfl dX9_copy_121 ?_
  refine r_put (ws' := [(a0, .inr (9, [.ref a2, .ref a3, .ref a4, .ref a5, .ref a6, .ref a7, .ref a8, .ref a9, .ref a10, .int (iI x9), .int (iI x10), .int (iI x2), .int (iI x3), .int (iI x13), .int (iI x5), .int (iI x6), .int (iI x7), .int (iI x8)])), (a1, .inr (9, [.ref a11, .ref a12, .ref a13, .ref a14, .ref a15, .ref a16, .ref a17, .ref a18, .ref a19, .int (iI x9), .int (iI x10), .int (iI x11), .int (iI x12), .int (iI x13), .int (iI x14), .int (iI x15), .int (iI x16), .int (iI x17)])), (a2, .inl (T 1, 9, .inr (.inl (va_cpy h2 h0 (Int32.toNatClampNeg (iI 0)) (Int32.toNatClampNeg (iI 0)) (Int32.toNatClampNeg (iI 9)))))), (a3, .inl (T 0, 9, .inl (cI (cpz f5 f0 0 0 9)))), (a4, .inl (T 0, 9, .inl (cI (cpz f6 f1 0 0 9)))), (a5, .inl (T 0, 9, .inl (cI (cpz f7 f2 0 0 9)))), (a6, .inl (T 0, 9, .inl (cI (cpz f8 f3 0 0 9)))), (a9, .inl (T 1, 3, .inr (.inl (va_cpy h3 h1 (Int32.toNatClampNeg (iI 0)) (Int32.toNatClampNeg (iI 0)) (Int32.toNatClampNeg (iI 3)))))), (a10, .inl (T 0, 3, .inl (cI (cpz f9 f4 0 0 3)))), (a11, .inl (T 1, 9, .inr (.inl h2))), (a12, .inl (T 0, 9, .inl (cI f5))), (a13, .inl (T 0, 9, .inl (cI f6))), (a14, .inl (T 0, 9, .inl (cI f7))), (a15, .inl (T 0, 9, .inl (cI f8))), (a18, .inl (T 1, 3, .inr (.inl h3))), (a19, .inl (T 0, 3, .inl (cI f9)))]) M w 0 13 clX9 rfl (by decide) G400 rfl rfl rfl rfl (Nat.le_of_ble_eq_true rfl) rfl dX9_copy_124 (fun H locs w => ?_)
  refine lv_aload_n hx hb dX9_copy_127 rfl (lv_at hl 0 rfl) ?_
  refine lv_aload_n hx hb dX9_copy_128 rfl (lv_at hl 1 rfl) ?_
  refine r_get (v := .int (iI x14)) M w 1 14 clX9 rfl (by decide) G402 rfl rfl dX9_copy_129 ?_
  refine r_put (ws' := [(a0, .inr (9, [.ref a2, .ref a3, .ref a4, .ref a5, .ref a6, .ref a7, .ref a8, .ref a9, .ref a10, .int (iI x9), .int (iI x10), .int (iI x2), .int (iI x3), .int (iI x13), .int (iI x14), .int (iI x6), .int (iI x7), .int (iI x8)])), (a1, .inr (9, [.ref a11, .ref a12, .ref a13, .ref a14, .ref a15, .ref a16, .ref a17, .ref a18, .ref a19, .int (iI x9), .int (iI x10), .int (iI x11), .int (iI x12), .int (iI x13), .int (iI x14), .int (iI x15), .int (iI x16), .int (iI x17)])), (a2, .inl (T 1, 9, .inr (.inl (va_cpy h2 h0 (Int32.toNatClampNeg (iI 0)) (Int32.toNatClampNeg (iI 0)) (Int32.toNatClampNeg (iI 9)))))), (a3, .inl (T 0, 9, .inl (cI (cpz f5 f0 0 0 9)))), (a4, .inl (T 0, 9, .inl (cI (cpz f6 f1 0 0 9)))), (a5, .inl (T 0, 9, .inl (cI (cpz f7 f2 0 0 9)))), (a6, .inl (T 0, 9, .inl (cI (cpz f8 f3 0 0 9)))), (a9, .inl (T 1, 3, .inr (.inl (va_cpy h3 h1 (Int32.toNatClampNeg (iI 0)) (Int32.toNatClampNeg (iI 0)) (Int32.toNatClampNeg (iI 3)))))), (a10, .inl (T 0, 3, .inl (cI (cpz f9 f4 0 0 3)))), (a11, .inl (T 1, 9, .inr (.inl h2))), (a12, .inl (T 0, 9, .inl (cI f5))), (a13, .inl (T 0, 9, .inl (cI f6))), (a14, .inl (T 0, 9, .inl (cI f7))), (a15, .inl (T 0, 9, .inl (cI f8))), (a18, .inl (T 1, 3, .inr (.inl h3))), (a19, .inl (T 0, 3, .inl (cI f9)))]) M w 0 14 clX9 rfl (by decide) G402 rfl rfl rfl rfl (Nat.le_of_ble_eq_true rfl) rfl dX9_copy_132 (fun H locs w => ?_)
  exact ret (x9, x10, x13, x14, (va_cpy h2 h0 (Int32.toNatClampNeg (iI 0)) (Int32.toNatClampNeg (iI 0)) (Int32.toNatClampNeg (iI 9))), (cpz f5 f0 0 0 9), (cpz f6 f1 0 0 9), (cpz f7 f2 0 0 9), (cpz f8 f3 0 0 9), (va_cpy h3 h1 (Int32.toNatClampNeg (iI 0)) (Int32.toNatClampNeg (iI 0)) (Int32.toNatClampNeg (iI 3))), (cpz f9 f4 0 0 3)) _ _ _ _ _ [0, 1, 2, 3, 4, 5, 6, 7, 8, 9, 10, 11, 12, 13, 14, 15] dX9_copy_135 ⟨x9_a, x9_b, x10_a, x10_b, x13_a, x13_b, x14_a, x14_b, (rng_cp f5_h f0_h), (rng_cp f6_h f1_h), (rng_cp f7_h f2_h), (rng_cp f8_h f3_h), (rng_cp f9_h f4_h), (show cpW h2 f5 f6 f7 f8 h3 f9 x9 x10 x13 x14 (va_cpy h2 h0 (Int32.toNatClampNeg (iI 0)) (Int32.toNatClampNeg (iI 0)) (Int32.toNatClampNeg (iI 9))) (cpz f5 f0 0 0 9) (cpz f6 f1 0 0 9) (cpz f7 f2 0 0 9) (cpz f8 f3 0 0 9) (va_cpy h3 h1 (Int32.toNatClampNeg (iI 0)) (Int32.toNatClampNeg (iI 0)) (Int32.toNatClampNeg (iI 3))) (cpz f9 f4 0 0 3) x9 x10 x13 x14 from ⟨⟨rfl, rfl, rfl, rfl⟩, fun p p0 p1 => ⟨cpy_in (by omega), cpz_z p0 p1, cpz_z p0 p1, cpz_z p0 p1, cpz_z p0 p1⟩, fun p p0 p1 => ⟨cpy_in3 (by omega), cpz_z p0 p1⟩⟩)⟩ w (by decide) rfl
set_option maxRecDepth 100000 in
set_option maxHeartbeats 4000000 in
theorem c278_X9_onceTold (l : Launch) (D : va_G) (T : Nat → ClassId) (sz : Nat) (a0 : Nat) (a1 : Nat) (x0 : Int) (x1 : Int) (x2 : Int) (a2 : Nat) (x3 : Int) (x4 : Int) (x5 : Int) (x6 : Int) (x7 : Int) (o0 : Option Nat) (y0 : Int64) (r0 : Int32) (x8 : Int) (x9 : Int) (x10 : Int) (f0 : Int → Int) (x0_a : 0 ≤ x0) (x0_b : x0 ≤ 1) (x1_a : (-2147483648) ≤ x1) (x1_b : x1 ≤ 2147483647) (x2_a : (-2147483648) ≤ x2) (x2_b : x2 ≤ 2147483647) (x3_a : 0 ≤ x3) (x3_b : x3 ≤ 940) (x4_a : 0 ≤ x4) (x4_b : x4 ≤ 940) (x5_a : 0 ≤ x5) (x5_b : x5 ≤ 940) (x6_a : 0 ≤ x6) (x6_b : x6 ≤ 940) (x7_a : 0 ≤ x7) (x7_b : x7 ≤ 5) (o0_h : wok T o0) (x8_a : (-2147483648) ≤ x8) (x8_b : x8 ≤ 2147483647) (x9_a : (-2147483648) ≤ x9) (x9_b : x9 ≤ 2147483647) (x10_a : 0 ≤ x10) (x10_b : x10 ≤ 940) (f0_h : rng 0 255 f0) : Met l yX9_onceTold (Cond.code yX9_onceTold cX9_onceTold 6 (some .int) :: GW) (Rm 5 0 0) (cPre [.ref a0, .ref a1, .int (iI x0), .int (iI x1), .int (iI x2)] D T [(a1, .inr (8, [.ref a2, .int (iI x3), .int (iI x4), .int (iI x5), .int (iI x6), .int (iI x7), (va_rf o0), .long y0, .int r0, .int (iI x8), .int (iI x9), .int (iI x10)])), (a2, .inl (T 0, 940, .inl (cI f0)))] sz) (qI D [(a1, .inr (8, [.ref a2, .int (iI x3), .int (iI x4), .int (iI x5), .int (iI x6), .int (iI x7), (va_rf o0), .long y0, .int r0, .int (iI x8), .int (iI x9), .int (iI x10)])), (a2, .inl (T 0, 940, .inl (cI f0)))] sz (fun (v : Int32) (u : Int × Int × Int × Int × Option Nat × Int64 × Int32 × Int × Int × Int) => iI u.1 = v ∧ (-2147483648) ≤ u.1 ∧ u.1 ≤ 2147483647 ∧ 0 ≤ u.2.1 ∧ u.2.1 ≤ 940 ∧ 0 ≤ u.2.2.1 ∧ u.2.2.1 ≤ 940 ∧ 0 ≤ u.2.2.2.1 ∧ u.2.2.2.1 ≤ 5 ∧ wok T u.2.2.2.2.1 ∧ (-2147483648) ≤ u.2.2.2.2.2.2.2.1 ∧ u.2.2.2.2.2.2.2.1 ≤ 2147483647 ∧ (-2147483648) ≤ u.2.2.2.2.2.2.2.2.1 ∧ u.2.2.2.2.2.2.2.2.1 ≤ 2147483647 ∧ 0 ≤ u.2.2.2.2.2.2.2.2.2 ∧ u.2.2.2.2.2.2.2.2.2 ≤ 940 ∧ (∀ x : Tk × Int × Int, gC T x x7 x6 x5 y0 r0 x8 o0 → onP T f0 x3 x4 x0 x1 x2 x u.1 u.2.2.2.2.2.2.2.2.1 u.2.2.2.2.2.2.2.2.2 (fun y => gC T y u.2.2.2.1 u.2.2.1 u.2.1 u.2.2.2.2.2.1 u.2.2.2.2.2.2.1 u.2.2.2.2.2.2.2.1 u.2.2.2.2.1)) ∧ (kpF u.1 x9 u.2.2.2.2.2.2.2.2.1)) (fun u => [(a1, .inr (8, [.ref a2, .int (iI x3), .int (iI x4), .int (iI u.2.1), .int (iI u.2.2.1), .int (iI u.2.2.2.1), (va_rf u.2.2.2.2.1), .long u.2.2.2.2.2.1, .int u.2.2.2.2.2.2.1, .int (iI u.2.2.2.2.2.2.2.1), .int (iI u.2.2.2.2.2.2.2.2.1), .int (iI u.2.2.2.2.2.2.2.2.2)])), (a2, .inl (T 0, 940, .inl (cI f0)))])) 0 0 (va_A [(a1, .inr (8, [.ref a2, .int (iI x3), .int (iI x4), .int (iI x5), .int (iI x6), .int (iI x7), (va_rf o0), .long y0, .int r0, .int (iI x8), .int (iI x9), .int (iI x10)])), (a2, .inl (T 0, 940, .inl (cI f0)))] sz) := by
  refine e_I (by decide) (Nat.le_of_ble_eq_true rfl) ?_
  intro p e s m args below meth c A Q ls M hin w ret hl
  have hx := M.1.1
  have hb := M.1.2.1
  have hl : lv_has ls 6 [(0, .ref a0), (1, .ref a1), (2, .int (iI x0)), (3, .int (iI x1)), (4, .int (iI x2))] := hl
  refine lv_iload_n hx hb dX9_onceTold_0 rfl (lv_at hl 2 rfl) ?_
  refine lv_if_eq (tgt := 12) hx hb dX9_onceTold_1 (by decide) (fun c_1 => ?_) (fun c_1 => ?_)
  · replace c_1 := (iz_eq (Int.le_trans (by decide) x0_a) (Int.le_trans x0_b (by decide))).mp c_1
    refine lv_aload_n hx hb dX9_onceTold_12 rfl (lv_at hl 1 rfl) ?_
    refine k_V (ce := 0) (sl := 0) (rest := []) (wr := []) (r_V (f := 4) [0, 1] M w V_HookedCity_Town_154 G587 G588 (c266_X8_step l D T _ a1 a2 x3 x4 x5 x6 x7 o0 y0 r0 x8 x9 x10 f0 x3_a x3_b x4_a x4_b x5_a x5_b x6_a x6_b x7_a x7_b o0_h x8_a x8_b x9_a x9_b x10_a x10_b f0_h) 0 clX8 rfl rfl (by decide) rfl hl.1 rfl (Nat.le_of_ble_eq_true rfl) dX9_onceTold_13 (by decide) (by decide) (by decide) (by decide)) w [0, 1] [] rfl rfl (by decide) (by decide) rfl rfl (fun u H locs hp w => ?_)
    obtain ⟨z2, z3, z4, fo5, fy6, fr7, z8⟩ := u
    have z2_a : 0 ≤ z2 := hp.1
    have z2_b : z2 ≤ 940 := hp.2.1
    have z3_a : 0 ≤ z3 := hp.2.2.1
    have z3_b : z3 ≤ 940 := hp.2.2.2.1
    have z4_a : 0 ≤ z4 := hp.2.2.2.2.1
    have z4_b : z4 ≤ 5 := hp.2.2.2.2.2.1
    have fo5_h : wok T fo5 := hp.2.2.2.2.2.2.1
    have z8_a : (-2147483648) ≤ z8 := hp.2.2.2.2.2.2.2.1
    have z8_b : z8 ≤ 2147483647 := hp.2.2.2.2.2.2.2.2.1
    have pq9 : gC T (tkAt f0 x3 x4 x5) z4 z3 z2 fy6 fr7 z8 fo5 := hp.2.2.2.2.2.2.2.2.2
    have w : WD D A s.heap [(a1, .inr (8, [.ref a2, .int (iI x3), .int (iI x4), .int (iI z2), .int (iI z3), .int (iI z4), (va_rf fo5), .long fy6, .int fr7, .int (iI z8), .int (iI x9), .int (iI x10)])), (a2, .inl (T 0, 940, .inl (cI f0)))] H locs := w
    refine lv_aload_n hx hb dX9_onceTold_16 rfl (lv_at hl 1 rfl) ?_
    refine lv_iload_n hx hb dX9_onceTold_17 rfl (lv_at hl 3 rfl) ?_
    refine lv_iload hx hb dX9_onceTold_18 (lv_at hl 4 rfl) ?_
    refine k_I (ce := 0) (sl := 0) (rest := []) (wr := [(a2, .inl (T 0, 940, .inl (cI f0)))]) (r_V (f := 1) [0] M w V_HookedCity_Town_168 G726 G727 (c273_X8_numberAt l D T _ a1 x1 x2 a2 x3 x4 z2 z3 z4 fo5 fy6 fr7 z8 x9 x10 x1_a x1_b x2_a x2_b x3_a x3_b x4_a x4_b z2_a z2_b z3_a z3_b z4_a z4_b fo5_h z8_a z8_b x9_a x9_b x10_a x10_b) 0 clX8 rfl rfl (by decide) rfl hl.1 rfl (Nat.le_of_ble_eq_true rfl) dX9_onceTold_20 (by decide) (by decide) (by decide) (by decide)) w [0] [1] rfl rfl (by decide) (by decide) rfl rfl (fun v u H locs hp w => ?_)
    obtain ⟨z10, z11, z12⟩ := u
    have hv : iI z10 = v := hp.1
    subst hv
    have z10_a : (-2147483648) ≤ z10 := hp.2.1
    have z10_b : z10 ≤ 2147483647 := hp.2.2.1
    have z11_a : (-2147483648) ≤ z11 := hp.2.2.2.1
    have z11_b : z11 ≤ 2147483647 := hp.2.2.2.2.1
    have z12_a : 0 ≤ z12 := hp.2.2.2.2.2.1
    have z12_b : z12 ≤ 940 := hp.2.2.2.2.2.2.1
    have pq13 : ∀ x : Tk × Int × Int, gC T x z4 z3 z2 fy6 fr7 z8 fo5 → XV (sNu x1 x2 x) z10 z11 z12 := hp.2.2.2.2.2.2.2.1
    have pq14 : kpF z10 x9 z11 := hp.2.2.2.2.2.2.2.2
    have w : WD D A s.heap [(a2, .inl (T 0, 940, .inl (cI f0))), (a1, .inr (8, [.ref a2, .int (iI x3), .int (iI x4), .int (iI z2), .int (iI z3), .int (iI z4), (va_rf fo5), .long fy6, .int fr7, .int (iI z8), .int (iI z11), .int (iI z12)]))] H locs := w
    refine lv_istore (lv' := [(5, .int (iI z10)), (0, .ref a0), (1, .ref a1), (2, .int (iI x0)), (3, .int (iI x1)), (4, .int (iI x2))]) hx hb dX9_onceTold_23 hl (by decide) rfl (fun ls hl => ?_)
    refine lv_iload hx hb dX9_onceTold_25 (lv_at hl 0 rfl) ?_
    refine lv_iconst (v := iI (-1)) hx hb dX9_onceTold_27 (by decide +kernel) ?_
    refine lv_icmp_eq (tgt := 35) hx hb dX9_onceTold_28 (by decide) (fun c_15 => ?_) (fun c_15 => ?_)
    · replace c_15 := (iI_eq (Int.le_trans (by decide) z10_a) (Int.le_trans z10_b (by decide)) (by decide) (by decide)).mp c_15
      refine lv_iload hx hb dX9_onceTold_35 (lv_at hl 0 rfl) ?_
      exact ret _ (z10, z2, z3, z4, fo5, fy6, fr7, z8, z11, z12) _ _ _ _ _ [1, 0] dX9_onceTold_37 ⟨rfl, z10_a, z10_b, z2_a, z2_b, z3_a, z3_b, z4_a, z4_b, fo5_h, z8_a, z8_b, z11_a, z11_b, z12_a, z12_b, (show ∀ x : Tk × Int × Int, gC T x x7 x6 x5 y0 r0 x8 o0 → onP T f0 x3 x4 x0 x1 x2 x z10 z11 z12 (fun y => gC T y z4 z3 z2 fy6 fr7 z8 fo5) from (fun x hx => Or.inr ⟨by omega, pq13 _ (gC_nx hx pq9), fun e => absurd (by omega) e⟩)), (show kpF z10 x9 z11 from pq14)⟩ w (by decide) rfl
    · replace c_15 : ¬ z10 = (-1) := fun h => c_15 ((iI_eq (Int.le_trans (by decide) z10_a) (Int.le_trans z10_b (by decide)) (by decide) (by decide)).mpr h)
      refine lv_aload_n hx hb dX9_onceTold_31 rfl (lv_at hl 2 rfl) ?_
      refine k_V (ce := 0) (sl := 0) (rest := []) (wr := []) (r_V (f := 4) [1, 0] M w V_HookedCity_Town_154 G587 G588 (c266_X8_step l D T _ a1 a2 x3 x4 z2 z3 z4 fo5 fy6 fr7 z8 z11 z12 f0 x3_a x3_b x4_a x4_b z2_a z2_b z3_a z3_b z4_a z4_b fo5_h z8_a z8_b z11_a z11_b z12_a z12_b f0_h) 1 clX8 rfl rfl (by decide) rfl hl.1 rfl (Nat.le_of_ble_eq_true rfl) dX9_onceTold_32 (by decide) (by decide) (by decide) (by decide)) w [1, 0] [] rfl rfl (by decide) (by decide) rfl rfl (fun u H locs hp w => ?_)
      obtain ⟨z16, z17, z18, fo19, fy20, fr21, z22⟩ := u
      have z16_a : 0 ≤ z16 := hp.1
      have z16_b : z16 ≤ 940 := hp.2.1
      have z17_a : 0 ≤ z17 := hp.2.2.1
      have z17_b : z17 ≤ 940 := hp.2.2.2.1
      have z18_a : 0 ≤ z18 := hp.2.2.2.2.1
      have z18_b : z18 ≤ 5 := hp.2.2.2.2.2.1
      have fo19_h : wok T fo19 := hp.2.2.2.2.2.2.1
      have z22_a : (-2147483648) ≤ z22 := hp.2.2.2.2.2.2.2.1
      have z22_b : z22 ≤ 2147483647 := hp.2.2.2.2.2.2.2.2.1
      have pq23 : gC T (tkAt f0 x3 x4 z2) z18 z17 z16 fy20 fr21 z22 fo19 := hp.2.2.2.2.2.2.2.2.2
      have w : WD D A s.heap [(a1, .inr (8, [.ref a2, .int (iI x3), .int (iI x4), .int (iI z16), .int (iI z17), .int (iI z18), (va_rf fo19), .long fy20, .int fr21, .int (iI z22), .int (iI z11), .int (iI z12)])), (a2, .inl (T 0, 940, .inl (cI f0)))] H locs := w
      refine lv_iload hx hb dX9_onceTold_35 (lv_at hl 0 rfl) ?_
      exact ret _ (z10, z16, z17, z18, fo19, fy20, fr21, z22, z11, z12) _ _ _ _ _ [0, 1] dX9_onceTold_37 ⟨rfl, z10_a, z10_b, z16_a, z16_b, z17_a, z17_b, z18_a, z18_b, fo19_h, z22_a, z22_b, z11_a, z11_b, z12_a, z12_b, (show ∀ x : Tk × Int × Int, gC T x x7 x6 x5 y0 r0 x8 o0 → onP T f0 x3 x4 x0 x1 x2 x z10 z11 z12 (fun y => gC T y z18 z17 z16 fy20 fr21 z22 fo19) from (fun x hx => Or.inr ⟨by omega, pq13 _ (gC_nx hx pq9), fun _ => gC_nx (gC_nx hx pq9) pq23⟩)), (show kpF z10 x9 z11 from pq14)⟩ w (by decide) rfl
  · replace c_1 : ¬ x0 = 0 := fun h => c_1 ((iz_eq (Int.le_trans (by decide) x0_a) (Int.le_trans x0_b (by decide))).mpr h)
    refine lv_aload_n hx hb dX9_onceTold_4 rfl (lv_at hl 1 rfl) ?_
    refine lv_iconst (v := iI 3) hx hb dX9_onceTold_5 (by decide +kernel) ?_
    refine k_I (ce := 0) (sl := 0) (rest := []) (wr := [(a2, .inl (T 0, 940, .inl (cI f0)))]) (r_V (f := 0) [0] M w V_HookedCity_Town_150 G710 G711 (c271_X8_fail l D T _ a1 3 a2 x3 x4 x5 x6 x7 o0 y0 r0 x8 x9 x10 (by decide) (by decide) x3_a x3_b x4_a x4_b x5_a x5_b x6_a x6_b x7_a x7_b o0_h x8_a x8_b x9_a x9_b x10_a x10_b) 0 clX8 rfl rfl (by decide) rfl hl.1 rfl (Nat.le_of_ble_eq_true rfl) dX9_onceTold_6 (by decide) (by decide) (by decide) (by decide)) w [0] [1] rfl rfl (by decide) (by decide) rfl rfl (fun v u H locs hp w => ?_)
    obtain ⟨z24, z25, z26⟩ := u
    have hv : iI z24 = v := hp.1
    subst hv
    have z24_a : 0 ≤ z24 := hp.2.1
    have z24_b : z24 ≤ 1 := hp.2.2.1
    have z25_a : (-2147483648) ≤ z25 := hp.2.2.2.1
    have z25_b : z25 ≤ 2147483647 := hp.2.2.2.2.1
    have z26_a : 0 ≤ z26 := hp.2.2.2.2.2.1
    have z26_b : z26 ≤ 940 := hp.2.2.2.2.2.2.1
    have pq27 : z25 = 3 := hp.2.2.2.2.2.2.2.1
    have pq28 : z26 = x6 := hp.2.2.2.2.2.2.2.2.1
    have w : WD D A s.heap [(a2, .inl (T 0, 940, .inl (cI f0))), (a1, .inr (8, [.ref a2, .int (iI x3), .int (iI x4), .int (iI x5), .int (iI x6), .int (iI x7), (va_rf o0), .long y0, .int r0, .int (iI x8), .int (iI z25), .int (iI z26)]))] H locs := w
    rcases hp.2.2.2.2.2.2.2.2.2 with hr
    · subst hr
      refine lv_pop hx hb dX9_onceTold_9 rfl ?_
      refine lv_iconst (v := iI (-1)) hx hb dX9_onceTold_10 (by decide +kernel) ?_
      exact ret _ ((-1), x5, x6, x7, o0, y0, r0, x8, z25, z26) _ _ _ _ _ [1, 0] dX9_onceTold_11 ⟨rfl, (show (-2147483648) ≤ (-1) from by decide), (show ((-1) : Int) ≤ 2147483647 from by decide), x5_a, x5_b, x6_a, x6_b, x7_a, x7_b, o0_h, x8_a, x8_b, z25_a, z25_b, z26_a, z26_b, (show ∀ x : Tk × Int × Int, gC T x x7 x6 x5 y0 r0 x8 o0 → onP T f0 x3 x4 x0 x1 x2 x (-1) z25 z26 (fun y => gC T y x7 x6 x5 y0 r0 x8 o0) from (fun x hx => Or.inl ⟨by omega, rfl, by omega, pq28.trans hx.1⟩)), (show kpF (-1) x9 z25 from (fun e => absurd rfl e))⟩ w (by decide) rfl
set_option maxRecDepth 100000 in
set_option maxHeartbeats 4000000 in
theorem c279_X9_readJuly (l : Launch) (D : va_G) (T : Nat → ClassId) (sz : Nat) (a0 : Nat) (a1 : Nat) (a2 : Nat) (a3 : Nat) (a4 : Nat) (a5 : Nat) (a6 : Nat) (a7 : Nat) (a8 : Nat) (a9 : Nat) (a10 : Nat) (x0 : Int) (x1 : Int) (x2 : Int) (x3 : Int) (x4 : Int) (x5 : Int) (x6 : Int) (x7 : Int) (x8 : Int) (a11 : Nat) (x9 : Int) (x10 : Int) (x11 : Int) (x12 : Int) (x13 : Int) (o0 : Option Nat) (y0 : Int64) (r0 : Int32) (x14 : Int) (x15 : Int) (x16 : Int) (h0 : Nat → Int64) (f0 : Int → Int) (f1 : Int → Int) (f2 : Int → Int) (f3 : Int → Int) (f4 : Int → Int) (f5 : Int → Int) (h1 : Nat → Int64) (f6 : Int → Int) (f7 : Int → Int) (x0_a : 0 ≤ x0) (x0_b : x0 ≤ 9) (x1_a : 0 ≤ x1) (x1_b : x1 ≤ 3) (x2_a : 0 ≤ x2) (x2_b : x2 ≤ 900) (x3_a : (-2147483648) ≤ x3) (x3_b : x3 ≤ 2147483647) (x4_a : (-2147483648) ≤ x4) (x4_b : x4 ≤ 2147483647) (x5_a : (-2147483648) ≤ x5) (x5_b : x5 ≤ 2147483647) (x6_a : 0 ≤ x6) (x6_b : x6 ≤ 1) (x7_a : 0 ≤ x7) (x7_b : x7 ≤ 1) (x8_a : 0 ≤ x8) (x8_b : x8 ≤ 1) (x9_a : 0 ≤ x9) (x9_b : x9 ≤ 940) (x10_a : 0 ≤ x10) (x10_b : x10 ≤ 940) (x11_a : 0 ≤ x11) (x11_b : x11 ≤ 940) (x12_a : 0 ≤ x12) (x12_b : x12 ≤ 940) (x13_a : 0 ≤ x13) (x13_b : x13 ≤ 5) (o0_h : wok T o0) (x14_a : (-2147483648) ≤ x14) (x14_b : x14 ≤ 2147483647) (x15_a : (-2147483648) ≤ x15) (x15_b : x15 ≤ 2147483647) (x16_a : 0 ≤ x16) (x16_b : x16 ≤ 940) (f0_h : rng (-2147483648) 2147483647 f0) (f1_h : rng (-2147483648) 2147483647 f1) (f2_h : rng (-2147483648) 2147483647 f2) (f3_h : rng 0 511 f3) (f4_h : rng (-1) 8 f4) (f5_h : rng (-1) 8 f5) (f6_h : rng (-2147483648) 2147483647 f6) (f7_h : rng 0 255 f7) : Met l yX9_readJuly (Cond.code yX9_readJuly cX9_readJuly 2 (some .boolean) :: GW) (Rm 6 0 0) (cPre [.ref a0, .ref a1] D T [(a0, .inr (9, [.ref a2, .ref a3, .ref a4, .ref a5, .ref a6, .ref a7, .ref a8, .ref a9, .ref a10, .int (iI x0), .int (iI x1), .int (iI x2), .int (iI x3), .int (iI x4), .int (iI x5), .int (iI x6), .int (iI x7), .int (iI x8)])), (a1, .inr (8, [.ref a11, .int (iI x9), .int (iI x10), .int (iI x11), .int (iI x12), .int (iI x13), (va_rf o0), .long y0, .int r0, .int (iI x14), .int (iI x15), .int (iI x16)])), (a2, .inl (T 1, 9, .inr (.inl h0))), (a3, .inl (T 0, 9, .inl (cI f0))), (a4, .inl (T 0, 9, .inl (cI f1))), (a5, .inl (T 0, 9, .inl (cI f2))), (a6, .inl (T 0, 9, .inl (cI f3))), (a7, .inl (T 0, 9, .inl (cI f4))), (a8, .inl (T 0, 9, .inl (cI f5))), (a9, .inl (T 1, 3, .inr (.inl h1))), (a10, .inl (T 0, 3, .inl (cI f6))), (a11, .inl (T 0, 940, .inl (cI f7)))] sz) (qI D [(a0, .inr (9, [.ref a2, .ref a3, .ref a4, .ref a5, .ref a6, .ref a7, .ref a8, .ref a9, .ref a10, .int (iI x0), .int (iI x1), .int (iI x2), .int (iI x3), .int (iI x4), .int (iI x5), .int (iI x6), .int (iI x7), .int (iI x8)])), (a1, .inr (8, [.ref a11, .int (iI x9), .int (iI x10), .int (iI x11), .int (iI x12), .int (iI x13), (va_rf o0), .long y0, .int r0, .int (iI x14), .int (iI x15), .int (iI x16)])), (a2, .inl (T 1, 9, .inr (.inl h0))), (a3, .inl (T 0, 9, .inl (cI f0))), (a4, .inl (T 0, 9, .inl (cI f1))), (a5, .inl (T 0, 9, .inl (cI f2))), (a6, .inl (T 0, 9, .inl (cI f3))), (a7, .inl (T 0, 9, .inl (cI f4))), (a8, .inl (T 0, 9, .inl (cI f5))), (a9, .inl (T 1, 3, .inr (.inl h1))), (a10, .inl (T 0, 3, .inl (cI f6))), (a11, .inl (T 0, 940, .inl (cI f7)))] sz (fun (v : Int32) (u : Int × Int × Int × Int × Int × Int × Option Nat × Int64 × Int32 × Int × Int × Int) => iI u.1 = v ∧ 0 ≤ u.1 ∧ u.1 ≤ 1 ∧ (-2147483648) ≤ u.2.1 ∧ u.2.1 ≤ 2147483647 ∧ 0 ≤ u.2.2.1 ∧ u.2.2.1 ≤ 1 ∧ 0 ≤ u.2.2.2.1 ∧ u.2.2.2.1 ≤ 940 ∧ 0 ≤ u.2.2.2.2.1 ∧ u.2.2.2.2.1 ≤ 940 ∧ 0 ≤ u.2.2.2.2.2.1 ∧ u.2.2.2.2.2.1 ≤ 5 ∧ wok T u.2.2.2.2.2.2.1 ∧ (-2147483648) ≤ u.2.2.2.2.2.2.2.2.2.1 ∧ u.2.2.2.2.2.2.2.2.2.1 ≤ 2147483647 ∧ (-2147483648) ≤ u.2.2.2.2.2.2.2.2.2.2.1 ∧ u.2.2.2.2.2.2.2.2.2.2.1 ≤ 2147483647 ∧ 0 ≤ u.2.2.2.2.2.2.2.2.2.2.2 ∧ u.2.2.2.2.2.2.2.2.2.2.2 ≤ 940 ∧ (∀ (x : Tk × Int × Int) (rd : Int → Int) (h : Nat → Int64) (o : Int → Int), gC T x x13 x12 x11 y0 r0 x14 o0 → XW rd h o h0 f0 f1 f2 f3 f4 f5 h1 f6 x0 x1 x3 x4 x5 x6 x7 x8 → XP (sOnce f7 x9 x10 x rd h o 2 0 60) u.1 u.2.2.2.2.2.2.2.2.2.2.1 u.2.2.2.2.2.2.2.2.2.2.2 (fun y => gC T y u.2.2.2.2.2.1 u.2.2.2.2.1 u.2.2.2.1 u.2.2.2.2.2.2.2.1 u.2.2.2.2.2.2.2.2.1 u.2.2.2.2.2.2.2.2.2.1 u.2.2.2.2.2.2.1) (fun rd h o => XW rd h o h0 f0 f1 f2 f3 f4 f5 h1 f6 x0 x1 x3 x4 u.2.1 x6 x7 u.2.2.1)) ∧ (kpB u.1 x15 u.2.2.2.2.2.2.2.2.2.2.1)) (fun u => [(a0, .inr (9, [.ref a2, .ref a3, .ref a4, .ref a5, .ref a6, .ref a7, .ref a8, .ref a9, .ref a10, .int (iI x0), .int (iI x1), .int (iI x2), .int (iI x3), .int (iI x4), .int (iI u.2.1), .int (iI x6), .int (iI x7), .int (iI u.2.2.1)])), (a1, .inr (8, [.ref a11, .int (iI x9), .int (iI x10), .int (iI u.2.2.2.1), .int (iI u.2.2.2.2.1), .int (iI u.2.2.2.2.2.1), (va_rf u.2.2.2.2.2.2.1), .long u.2.2.2.2.2.2.2.1, .int u.2.2.2.2.2.2.2.2.1, .int (iI u.2.2.2.2.2.2.2.2.2.1), .int (iI u.2.2.2.2.2.2.2.2.2.2.1), .int (iI u.2.2.2.2.2.2.2.2.2.2.2)])), (a2, .inl (T 1, 9, .inr (.inl h0))), (a3, .inl (T 0, 9, .inl (cI f0))), (a4, .inl (T 0, 9, .inl (cI f1))), (a5, .inl (T 0, 9, .inl (cI f2))), (a6, .inl (T 0, 9, .inl (cI f3))), (a7, .inl (T 0, 9, .inl (cI f4))), (a8, .inl (T 0, 9, .inl (cI f5))), (a9, .inl (T 1, 3, .inr (.inl h1))), (a10, .inl (T 0, 3, .inl (cI f6))), (a11, .inl (T 0, 940, .inl (cI f7)))])) 0 0 (va_A [(a0, .inr (9, [.ref a2, .ref a3, .ref a4, .ref a5, .ref a6, .ref a7, .ref a8, .ref a9, .ref a10, .int (iI x0), .int (iI x1), .int (iI x2), .int (iI x3), .int (iI x4), .int (iI x5), .int (iI x6), .int (iI x7), .int (iI x8)])), (a1, .inr (8, [.ref a11, .int (iI x9), .int (iI x10), .int (iI x11), .int (iI x12), .int (iI x13), (va_rf o0), .long y0, .int r0, .int (iI x14), .int (iI x15), .int (iI x16)])), (a2, .inl (T 1, 9, .inr (.inl h0))), (a3, .inl (T 0, 9, .inl (cI f0))), (a4, .inl (T 0, 9, .inl (cI f1))), (a5, .inl (T 0, 9, .inl (cI f2))), (a6, .inl (T 0, 9, .inl (cI f3))), (a7, .inl (T 0, 9, .inl (cI f4))), (a8, .inl (T 0, 9, .inl (cI f5))), (a9, .inl (T 1, 3, .inr (.inl h1))), (a10, .inl (T 0, 3, .inl (cI f6))), (a11, .inl (T 0, 940, .inl (cI f7)))] sz) := by
  refine e_Z (by decide) (Nat.le_of_ble_eq_true rfl) ?_
  intro p e s m args below meth c A Q ls M hin w ret hl
  have hx := M.1.1
  have hb := M.1.2.1
  have hl : lv_has ls 2 [(0, .ref a0), (1, .ref a1)] := hl
  refine lv_aload_n hx hb dX9_readJuly_0 rfl (lv_at hl 0 rfl) ?_
  refine lv_aload_n hx hb dX9_readJuly_1 rfl (lv_at hl 0 rfl) ?_
  refine lv_aload_n hx hb dX9_readJuly_2 rfl (lv_at hl 1 rfl) ?_
  refine lv_aload_n hx hb dX9_readJuly_3 rfl (lv_at hl 0 rfl) ?_
  refine r_get (v := .int (iI x8)) M w 0 17 clX9 rfl (by decide) G406 rfl rfl dX9_readJuly_4 ?_
  refine lv_iconst (v := iI 0) hx hb dX9_readJuly_7 (by decide +kernel) ?_
  refine lv_bipush (v := iI 60) hx hb dX9_readJuly_8 (by decide +kernel) ?_
  refine k_I (ce := 0) (sl := 0) (rest := [.ref a0]) (wr := [(a0, .inr (9, [.ref a2, .ref a3, .ref a4, .ref a5, .ref a6, .ref a7, .ref a8, .ref a9, .ref a10, .int (iI x0), .int (iI x1), .int (iI x2), .int (iI x3), .int (iI x4), .int (iI x5), .int (iI x6), .int (iI x7), .int (iI x8)])), (a2, .inl (T 1, 9, .inr (.inl h0))), (a3, .inl (T 0, 9, .inl (cI f0))), (a4, .inl (T 0, 9, .inl (cI f1))), (a5, .inl (T 0, 9, .inl (cI f2))), (a6, .inl (T 0, 9, .inl (cI f3))), (a7, .inl (T 0, 9, .inl (cI f4))), (a8, .inl (T 0, 9, .inl (cI f5))), (a9, .inl (T 1, 3, .inr (.inl h1))), (a10, .inl (T 0, 3, .inl (cI f6)))]) (r_V (f := 5) [1, 11] M w V_HookedCity_Town_175 G764 G12 (c278_X9_onceTold l D T _ a0 a1 x8 0 60 a11 x9 x10 x11 x12 x13 o0 y0 r0 x14 x15 x16 f7 x8_a x8_b (by decide) (by decide) (by decide) (by decide) x9_a x9_b x10_a x10_b x11_a x11_b x12_a x12_b x13_a x13_b o0_h x14_a x14_b x15_a x15_b x16_a x16_b f7_h) 0 clX9 rfl rfl (by decide) rfl hl.1 rfl (Nat.le_of_ble_eq_true rfl) dX9_readJuly_10 (by decide) (by decide) (by decide) (by decide)) w [1, 11] [0, 2, 3, 4, 5, 6, 7, 8, 9, 10] rfl rfl (by decide) (by decide) rfl rfl (fun v u H locs hp w => ?_)
  obtain ⟨z1, z2, z3, z4, fo5, fy6, fr7, z8, z9, z10⟩ := u
  have hv : iI z1 = v := hp.1
  subst hv
  have z1_a : (-2147483648) ≤ z1 := hp.2.1
  have z1_b : z1 ≤ 2147483647 := hp.2.2.1
  have z2_a : 0 ≤ z2 := hp.2.2.2.1
  have z2_b : z2 ≤ 940 := hp.2.2.2.2.1
  have z3_a : 0 ≤ z3 := hp.2.2.2.2.2.1
  have z3_b : z3 ≤ 940 := hp.2.2.2.2.2.2.1
  have z4_a : 0 ≤ z4 := hp.2.2.2.2.2.2.2.1
  have z4_b : z4 ≤ 5 := hp.2.2.2.2.2.2.2.2.1
  have fo5_h : wok T fo5 := hp.2.2.2.2.2.2.2.2.2.1
  have z8_a : (-2147483648) ≤ z8 := hp.2.2.2.2.2.2.2.2.2.2.1
  have z8_b : z8 ≤ 2147483647 := hp.2.2.2.2.2.2.2.2.2.2.2.1
  have z9_a : (-2147483648) ≤ z9 := hp.2.2.2.2.2.2.2.2.2.2.2.2.1
  have z9_b : z9 ≤ 2147483647 := hp.2.2.2.2.2.2.2.2.2.2.2.2.2.1
  have z10_a : 0 ≤ z10 := hp.2.2.2.2.2.2.2.2.2.2.2.2.2.2.1
  have z10_b : z10 ≤ 940 := hp.2.2.2.2.2.2.2.2.2.2.2.2.2.2.2.1
  have pq11 : ∀ x : Tk × Int × Int, gC T x x13 x12 x11 y0 r0 x14 o0 → onP T f7 x9 x10 x8 0 60 x z1 z9 z10 (fun y => gC T y z4 z3 z2 fy6 fr7 z8 fo5) := hp.2.2.2.2.2.2.2.2.2.2.2.2.2.2.2.2.1
  have pq12 : kpF z1 x15 z9 := hp.2.2.2.2.2.2.2.2.2.2.2.2.2.2.2.2.2
  have w : WD D A s.heap [(a0, .inr (9, [.ref a2, .ref a3, .ref a4, .ref a5, .ref a6, .ref a7, .ref a8, .ref a9, .ref a10, .int (iI x0), .int (iI x1), .int (iI x2), .int (iI x3), .int (iI x4), .int (iI x5), .int (iI x6), .int (iI x7), .int (iI x8)])), (a2, .inl (T 1, 9, .inr (.inl h0))), (a3, .inl (T 0, 9, .inl (cI f0))), (a4, .inl (T 0, 9, .inl (cI f1))), (a5, .inl (T 0, 9, .inl (cI f2))), (a6, .inl (T 0, 9, .inl (cI f3))), (a7, .inl (T 0, 9, .inl (cI f4))), (a8, .inl (T 0, 9, .inl (cI f5))), (a9, .inl (T 1, 3, .inr (.inl h1))), (a10, .inl (T 0, 3, .inl (cI f6))), (a1, .inr (8, [.ref a11, .int (iI x9), .int (iI x10), .int (iI z2), .int (iI z3), .int (iI z4), (va_rf fo5), .long fy6, .int fr7, .int (iI z8), .int (iI z9), .int (iI z10)])), (a11, .inl (T 0, 940, .inl (cI f7)))] H locs := w
  refine r_put (ws' := [(a0, .inr (9, [.ref a2, .ref a3, .ref a4, .ref a5, .ref a6, .ref a7, .ref a8, .ref a9, .ref a10, .int (iI x0), .int (iI x1), .int (iI x2), .int (iI x3), .int (iI x4), .int (iI z1), .int (iI x6), .int (iI x7), .int (iI x8)])), (a2, .inl (T 1, 9, .inr (.inl h0))), (a3, .inl (T 0, 9, .inl (cI f0))), (a4, .inl (T 0, 9, .inl (cI f1))), (a5, .inl (T 0, 9, .inl (cI f2))), (a6, .inl (T 0, 9, .inl (cI f3))), (a7, .inl (T 0, 9, .inl (cI f4))), (a8, .inl (T 0, 9, .inl (cI f5))), (a9, .inl (T 1, 3, .inr (.inl h1))), (a10, .inl (T 0, 3, .inl (cI f6))), (a1, .inr (8, [.ref a11, .int (iI x9), .int (iI x10), .int (iI z2), .int (iI z3), .int (iI z4), (va_rf fo5), .long fy6, .int fr7, .int (iI z8), .int (iI z9), .int (iI z10)])), (a11, .inl (T 0, 940, .inl (cI f7)))]) M w 0 14 clX9 rfl (by decide) G402 rfl rfl rfl rfl (Nat.le_of_ble_eq_true rfl) rfl dX9_readJuly_13 (fun H locs w => ?_)
  refine lv_aload_n hx hb dX9_readJuly_16 rfl (lv_at hl 0 rfl) ?_
  refine lv_iconst (v := iI 1) hx hb dX9_readJuly_17 (by decide +kernel) ?_
  refine r_put (ws' := [(a0, .inr (9, [.ref a2, .ref a3, .ref a4, .ref a5, .ref a6, .ref a7, .ref a8, .ref a9, .ref a10, .int (iI x0), .int (iI x1), .int (iI x2), .int (iI x3), .int (iI x4), .int (iI z1), .int (iI x6), .int (iI x7), .int (iI 1)])), (a2, .inl (T 1, 9, .inr (.inl h0))), (a3, .inl (T 0, 9, .inl (cI f0))), (a4, .inl (T 0, 9, .inl (cI f1))), (a5, .inl (T 0, 9, .inl (cI f2))), (a6, .inl (T 0, 9, .inl (cI f3))), (a7, .inl (T 0, 9, .inl (cI f4))), (a8, .inl (T 0, 9, .inl (cI f5))), (a9, .inl (T 1, 3, .inr (.inl h1))), (a10, .inl (T 0, 3, .inl (cI f6))), (a1, .inr (8, [.ref a11, .int (iI x9), .int (iI x10), .int (iI z2), .int (iI z3), .int (iI z4), (va_rf fo5), .long fy6, .int fr7, .int (iI z8), .int (iI z9), .int (iI z10)])), (a11, .inl (T 0, 940, .inl (cI f7)))]) M w 0 17 clX9 rfl (by decide) G406 rfl rfl (by decide +kernel) (by decide +kernel) (Nat.le_of_ble_eq_true rfl) rfl dX9_readJuly_18 (fun H locs w => ?_)
  refine lv_aload_n hx hb dX9_readJuly_21 rfl (lv_at hl 0 rfl) ?_
  refine r_get (v := .int (iI z1)) M w 0 14 clX9 rfl (by decide) G402 rfl rfl dX9_readJuly_22 ?_
  refine lv_iconst (v := iI (-1)) hx hb dX9_readJuly_25 (by decide +kernel) ?_
  refine lv_icmp_eq (tgt := 33) hx hb dX9_readJuly_26 (by decide) (fun c_13 => ?_) (fun c_13 => ?_)
  · replace c_13 := (iI_eq (Int.le_trans (by decide) z1_a) (Int.le_trans z1_b (by decide)) (by decide) (by decide)).mp c_13
    refine lv_iconst (v := iI 0) hx hb dX9_readJuly_33 (by decide +kernel) ?_
    exact ret _ (0, z1, 1, z2, z3, z4, fo5, fy6, fr7, z8, z9, z10) _ _ _ _ _ [0, 10, 1, 2, 3, 4, 5, 6, 7, 8, 9, 11] dX9_readJuly_34 (by decide +kernel) ⟨rfl, (show (0 : Int) ≤ 0 from by decide), (show (0 : Int) ≤ 1 from by decide), z1_a, z1_b, (show (0 : Int) ≤ 1 from by decide), (show (1 : Int) ≤ 1 from by decide), z2_a, z2_b, z3_a, z3_b, z4_a, z4_b, fo5_h, z8_a, z8_b, z9_a, z9_b, z10_a, z10_b, (show ∀ (x : Tk × Int × Int) (rd : Int → Int) (h : Nat → Int64) (o : Int → Int), gC T x x13 x12 x11 y0 r0 x14 o0 → XW rd h o h0 f0 f1 f2 f3 f4 f5 h1 f6 x0 x1 x3 x4 x5 x6 x7 x8 → XP (sOnce f7 x9 x10 x rd h o 2 0 60) 0 z9 z10 (fun y => gC T y z4 z3 z2 fy6 fr7 z8 fo5) (fun rd h o => XW rd h o h0 f0 f1 f2 f3 f4 f5 h1 f6 x0 x1 x3 x4 z1 x6 x7 1) from (by intro x rd h o hx hw; have hw1 := hw.1; exact xonce (pq11 x hx) (by omega) (by omega) (fun e => absurd (by omega) e))), (show kpB 0 x15 z9 from (fun e => absurd e (by decide)))⟩ w (by decide) rfl
  · replace c_13 : ¬ z1 = (-1) := fun h => c_13 ((iI_eq (Int.le_trans (by decide) z1_a) (Int.le_trans z1_b (by decide)) (by decide) (by decide)).mpr h)
    refine lv_iconst (v := iI 1) hx hb dX9_readJuly_29 (by decide +kernel) ?_
    refine lv_goto (tgt := 34) hx hb dX9_readJuly_30 (by decide) ?_
    exact ret _ (1, z1, 1, z2, z3, z4, fo5, fy6, fr7, z8, z9, z10) _ _ _ _ _ [0, 10, 1, 2, 3, 4, 5, 6, 7, 8, 9, 11] dX9_readJuly_34 (by decide +kernel) ⟨rfl, (show (0 : Int) ≤ 1 from by decide), (show (1 : Int) ≤ 1 from by decide), z1_a, z1_b, (show (0 : Int) ≤ 1 from by decide), (show (1 : Int) ≤ 1 from by decide), z2_a, z2_b, z3_a, z3_b, z4_a, z4_b, fo5_h, z8_a, z8_b, z9_a, z9_b, z10_a, z10_b, (show ∀ (x : Tk × Int × Int) (rd : Int → Int) (h : Nat → Int64) (o : Int → Int), gC T x x13 x12 x11 y0 r0 x14 o0 → XW rd h o h0 f0 f1 f2 f3 f4 f5 h1 f6 x0 x1 x3 x4 x5 x6 x7 x8 → XP (sOnce f7 x9 x10 x rd h o 2 0 60) 1 z9 z10 (fun y => gC T y z4 z3 z2 fy6 fr7 z8 fo5) (fun rd h o => XW rd h o h0 f0 f1 f2 f3 f4 f5 h1 f6 x0 x1 x3 x4 z1 x6 x7 1) from (by intro x rd h o hx hw; have hw1 := hw.1; exact xonce (pq11 x hx) (by omega) (by omega) (fun e => xw_o2 hw))), (show kpB 1 x15 z9 from (fun hr => by have y0 := pq12 (by omega); omega))⟩ w (by decide) rfl
set_option maxRecDepth 100000 in
set_option maxHeartbeats 4000000 in
theorem c280_X9_readYear (l : Launch) (D : va_G) (T : Nat → ClassId) (sz : Nat) (a0 : Nat) (a1 : Nat) (a2 : Nat) (a3 : Nat) (a4 : Nat) (a5 : Nat) (a6 : Nat) (a7 : Nat) (a8 : Nat) (a9 : Nat) (a10 : Nat) (x0 : Int) (x1 : Int) (x2 : Int) (x3 : Int) (x4 : Int) (x5 : Int) (x6 : Int) (x7 : Int) (x8 : Int) (a11 : Nat) (x9 : Int) (x10 : Int) (x11 : Int) (x12 : Int) (x13 : Int) (o0 : Option Nat) (y0 : Int64) (r0 : Int32) (x14 : Int) (x15 : Int) (x16 : Int) (h0 : Nat → Int64) (f0 : Int → Int) (f1 : Int → Int) (f2 : Int → Int) (f3 : Int → Int) (f4 : Int → Int) (f5 : Int → Int) (h1 : Nat → Int64) (f6 : Int → Int) (f7 : Int → Int) (x0_a : 0 ≤ x0) (x0_b : x0 ≤ 9) (x1_a : 0 ≤ x1) (x1_b : x1 ≤ 3) (x2_a : 0 ≤ x2) (x2_b : x2 ≤ 900) (x3_a : (-2147483648) ≤ x3) (x3_b : x3 ≤ 2147483647) (x4_a : (-2147483648) ≤ x4) (x4_b : x4 ≤ 2147483647) (x5_a : (-2147483648) ≤ x5) (x5_b : x5 ≤ 2147483647) (x6_a : 0 ≤ x6) (x6_b : x6 ≤ 1) (x7_a : 0 ≤ x7) (x7_b : x7 ≤ 1) (x8_a : 0 ≤ x8) (x8_b : x8 ≤ 1) (x9_a : 0 ≤ x9) (x9_b : x9 ≤ 940) (x10_a : 0 ≤ x10) (x10_b : x10 ≤ 940) (x11_a : 0 ≤ x11) (x11_b : x11 ≤ 940) (x12_a : 0 ≤ x12) (x12_b : x12 ≤ 940) (x13_a : 0 ≤ x13) (x13_b : x13 ≤ 5) (o0_h : wok T o0) (x14_a : (-2147483648) ≤ x14) (x14_b : x14 ≤ 2147483647) (x15_a : (-2147483648) ≤ x15) (x15_b : x15 ≤ 2147483647) (x16_a : 0 ≤ x16) (x16_b : x16 ≤ 940) (f0_h : rng (-2147483648) 2147483647 f0) (f1_h : rng (-2147483648) 2147483647 f1) (f2_h : rng (-2147483648) 2147483647 f2) (f3_h : rng 0 511 f3) (f4_h : rng (-1) 8 f4) (f5_h : rng (-1) 8 f5) (f6_h : rng (-2147483648) 2147483647 f6) (f7_h : rng 0 255 f7) : Met l yX9_readYear (Cond.code yX9_readYear cX9_readYear 2 (some .boolean) :: GW) (Rm 6 0 0) (cPre [.ref a0, .ref a1] D T [(a0, .inr (9, [.ref a2, .ref a3, .ref a4, .ref a5, .ref a6, .ref a7, .ref a8, .ref a9, .ref a10, .int (iI x0), .int (iI x1), .int (iI x2), .int (iI x3), .int (iI x4), .int (iI x5), .int (iI x6), .int (iI x7), .int (iI x8)])), (a1, .inr (8, [.ref a11, .int (iI x9), .int (iI x10), .int (iI x11), .int (iI x12), .int (iI x13), (va_rf o0), .long y0, .int r0, .int (iI x14), .int (iI x15), .int (iI x16)])), (a2, .inl (T 1, 9, .inr (.inl h0))), (a3, .inl (T 0, 9, .inl (cI f0))), (a4, .inl (T 0, 9, .inl (cI f1))), (a5, .inl (T 0, 9, .inl (cI f2))), (a6, .inl (T 0, 9, .inl (cI f3))), (a7, .inl (T 0, 9, .inl (cI f4))), (a8, .inl (T 0, 9, .inl (cI f5))), (a9, .inl (T 1, 3, .inr (.inl h1))), (a10, .inl (T 0, 3, .inl (cI f6))), (a11, .inl (T 0, 940, .inl (cI f7)))] sz) (qI D [(a0, .inr (9, [.ref a2, .ref a3, .ref a4, .ref a5, .ref a6, .ref a7, .ref a8, .ref a9, .ref a10, .int (iI x0), .int (iI x1), .int (iI x2), .int (iI x3), .int (iI x4), .int (iI x5), .int (iI x6), .int (iI x7), .int (iI x8)])), (a1, .inr (8, [.ref a11, .int (iI x9), .int (iI x10), .int (iI x11), .int (iI x12), .int (iI x13), (va_rf o0), .long y0, .int r0, .int (iI x14), .int (iI x15), .int (iI x16)])), (a2, .inl (T 1, 9, .inr (.inl h0))), (a3, .inl (T 0, 9, .inl (cI f0))), (a4, .inl (T 0, 9, .inl (cI f1))), (a5, .inl (T 0, 9, .inl (cI f2))), (a6, .inl (T 0, 9, .inl (cI f3))), (a7, .inl (T 0, 9, .inl (cI f4))), (a8, .inl (T 0, 9, .inl (cI f5))), (a9, .inl (T 1, 3, .inr (.inl h1))), (a10, .inl (T 0, 3, .inl (cI f6))), (a11, .inl (T 0, 940, .inl (cI f7)))] sz (fun (v : Int32) (u : Int × Int × Int × Int × Int × Int × Option Nat × Int64 × Int32 × Int × Int × Int) => iI u.1 = v ∧ 0 ≤ u.1 ∧ u.1 ≤ 1 ∧ (-2147483648) ≤ u.2.1 ∧ u.2.1 ≤ 2147483647 ∧ 0 ≤ u.2.2.1 ∧ u.2.2.1 ≤ 1 ∧ 0 ≤ u.2.2.2.1 ∧ u.2.2.2.1 ≤ 940 ∧ 0 ≤ u.2.2.2.2.1 ∧ u.2.2.2.2.1 ≤ 940 ∧ 0 ≤ u.2.2.2.2.2.1 ∧ u.2.2.2.2.2.1 ≤ 5 ∧ wok T u.2.2.2.2.2.2.1 ∧ (-2147483648) ≤ u.2.2.2.2.2.2.2.2.2.1 ∧ u.2.2.2.2.2.2.2.2.2.1 ≤ 2147483647 ∧ (-2147483648) ≤ u.2.2.2.2.2.2.2.2.2.2.1 ∧ u.2.2.2.2.2.2.2.2.2.2.1 ≤ 2147483647 ∧ 0 ≤ u.2.2.2.2.2.2.2.2.2.2.2 ∧ u.2.2.2.2.2.2.2.2.2.2.2 ≤ 940 ∧ (∀ (x : Tk × Int × Int) (rd : Int → Int) (h : Nat → Int64) (o : Int → Int), gC T x x13 x12 x11 y0 r0 x14 o0 → XW rd h o h0 f0 f1 f2 f3 f4 f5 h1 f6 x0 x1 x3 x4 x5 x6 x7 x8 → XP (sOnce f7 x9 x10 x rd h o 1 2 60) u.1 u.2.2.2.2.2.2.2.2.2.2.1 u.2.2.2.2.2.2.2.2.2.2.2 (fun y => gC T y u.2.2.2.2.2.1 u.2.2.2.2.1 u.2.2.2.1 u.2.2.2.2.2.2.2.1 u.2.2.2.2.2.2.2.2.1 u.2.2.2.2.2.2.2.2.2.1 u.2.2.2.2.2.2.1) (fun rd h o => XW rd h o h0 f0 f1 f2 f3 f4 f5 h1 f6 x0 x1 x3 u.2.1 x5 x6 u.2.2.1 x8)) ∧ (kpB u.1 x15 u.2.2.2.2.2.2.2.2.2.2.1)) (fun u => [(a0, .inr (9, [.ref a2, .ref a3, .ref a4, .ref a5, .ref a6, .ref a7, .ref a8, .ref a9, .ref a10, .int (iI x0), .int (iI x1), .int (iI x2), .int (iI x3), .int (iI u.2.1), .int (iI x5), .int (iI x6), .int (iI u.2.2.1), .int (iI x8)])), (a1, .inr (8, [.ref a11, .int (iI x9), .int (iI x10), .int (iI u.2.2.2.1), .int (iI u.2.2.2.2.1), .int (iI u.2.2.2.2.2.1), (va_rf u.2.2.2.2.2.2.1), .long u.2.2.2.2.2.2.2.1, .int u.2.2.2.2.2.2.2.2.1, .int (iI u.2.2.2.2.2.2.2.2.2.1), .int (iI u.2.2.2.2.2.2.2.2.2.2.1), .int (iI u.2.2.2.2.2.2.2.2.2.2.2)])), (a2, .inl (T 1, 9, .inr (.inl h0))), (a3, .inl (T 0, 9, .inl (cI f0))), (a4, .inl (T 0, 9, .inl (cI f1))), (a5, .inl (T 0, 9, .inl (cI f2))), (a6, .inl (T 0, 9, .inl (cI f3))), (a7, .inl (T 0, 9, .inl (cI f4))), (a8, .inl (T 0, 9, .inl (cI f5))), (a9, .inl (T 1, 3, .inr (.inl h1))), (a10, .inl (T 0, 3, .inl (cI f6))), (a11, .inl (T 0, 940, .inl (cI f7)))])) 0 0 (va_A [(a0, .inr (9, [.ref a2, .ref a3, .ref a4, .ref a5, .ref a6, .ref a7, .ref a8, .ref a9, .ref a10, .int (iI x0), .int (iI x1), .int (iI x2), .int (iI x3), .int (iI x4), .int (iI x5), .int (iI x6), .int (iI x7), .int (iI x8)])), (a1, .inr (8, [.ref a11, .int (iI x9), .int (iI x10), .int (iI x11), .int (iI x12), .int (iI x13), (va_rf o0), .long y0, .int r0, .int (iI x14), .int (iI x15), .int (iI x16)])), (a2, .inl (T 1, 9, .inr (.inl h0))), (a3, .inl (T 0, 9, .inl (cI f0))), (a4, .inl (T 0, 9, .inl (cI f1))), (a5, .inl (T 0, 9, .inl (cI f2))), (a6, .inl (T 0, 9, .inl (cI f3))), (a7, .inl (T 0, 9, .inl (cI f4))), (a8, .inl (T 0, 9, .inl (cI f5))), (a9, .inl (T 1, 3, .inr (.inl h1))), (a10, .inl (T 0, 3, .inl (cI f6))), (a11, .inl (T 0, 940, .inl (cI f7)))] sz) := by
  refine e_Z (by decide) (Nat.le_of_ble_eq_true rfl) ?_
  intro p e s m args below meth c A Q ls M hin w ret hl
  have hx := M.1.1
  have hb := M.1.2.1
  have hl : lv_has ls 2 [(0, .ref a0), (1, .ref a1)] := hl
  refine lv_aload_n hx hb dX9_readYear_0 rfl (lv_at hl 0 rfl) ?_
  refine lv_aload_n hx hb dX9_readYear_1 rfl (lv_at hl 0 rfl) ?_
  refine lv_aload_n hx hb dX9_readYear_2 rfl (lv_at hl 1 rfl) ?_
  refine lv_aload_n hx hb dX9_readYear_3 rfl (lv_at hl 0 rfl) ?_
  refine r_get (v := .int (iI x7)) M w 0 16 clX9 rfl (by decide) G405 rfl rfl dX9_readYear_4 ?_
  refine lv_iconst (v := iI 2) hx hb dX9_readYear_7 (by decide +kernel) ?_
  refine lv_bipush (v := iI 60) hx hb dX9_readYear_8 (by decide +kernel) ?_
  refine k_I (ce := 0) (sl := 0) (rest := [.ref a0]) (wr := [(a0, .inr (9, [.ref a2, .ref a3, .ref a4, .ref a5, .ref a6, .ref a7, .ref a8, .ref a9, .ref a10, .int (iI x0), .int (iI x1), .int (iI x2), .int (iI x3), .int (iI x4), .int (iI x5), .int (iI x6), .int (iI x7), .int (iI x8)])), (a2, .inl (T 1, 9, .inr (.inl h0))), (a3, .inl (T 0, 9, .inl (cI f0))), (a4, .inl (T 0, 9, .inl (cI f1))), (a5, .inl (T 0, 9, .inl (cI f2))), (a6, .inl (T 0, 9, .inl (cI f3))), (a7, .inl (T 0, 9, .inl (cI f4))), (a8, .inl (T 0, 9, .inl (cI f5))), (a9, .inl (T 1, 3, .inr (.inl h1))), (a10, .inl (T 0, 3, .inl (cI f6)))]) (r_V (f := 5) [1, 11] M w V_HookedCity_Town_175 G764 G12 (c278_X9_onceTold l D T _ a0 a1 x7 2 60 a11 x9 x10 x11 x12 x13 o0 y0 r0 x14 x15 x16 f7 x7_a x7_b (by decide) (by decide) (by decide) (by decide) x9_a x9_b x10_a x10_b x11_a x11_b x12_a x12_b x13_a x13_b o0_h x14_a x14_b x15_a x15_b x16_a x16_b f7_h) 0 clX9 rfl rfl (by decide) rfl hl.1 rfl (Nat.le_of_ble_eq_true rfl) dX9_readYear_10 (by decide) (by decide) (by decide) (by decide)) w [1, 11] [0, 2, 3, 4, 5, 6, 7, 8, 9, 10] rfl rfl (by decide) (by decide) rfl rfl (fun v u H locs hp w => ?_)
  obtain ⟨z1, z2, z3, z4, fo5, fy6, fr7, z8, z9, z10⟩ := u
  have hv : iI z1 = v := hp.1
  subst hv
  have z1_a : (-2147483648) ≤ z1 := hp.2.1
  have z1_b : z1 ≤ 2147483647 := hp.2.2.1
  have z2_a : 0 ≤ z2 := hp.2.2.2.1
  have z2_b : z2 ≤ 940 := hp.2.2.2.2.1
  have z3_a : 0 ≤ z3 := hp.2.2.2.2.2.1
  have z3_b : z3 ≤ 940 := hp.2.2.2.2.2.2.1
  have z4_a : 0 ≤ z4 := hp.2.2.2.2.2.2.2.1
  have z4_b : z4 ≤ 5 := hp.2.2.2.2.2.2.2.2.1
  have fo5_h : wok T fo5 := hp.2.2.2.2.2.2.2.2.2.1
  have z8_a : (-2147483648) ≤ z8 := hp.2.2.2.2.2.2.2.2.2.2.1
  have z8_b : z8 ≤ 2147483647 := hp.2.2.2.2.2.2.2.2.2.2.2.1
  have z9_a : (-2147483648) ≤ z9 := hp.2.2.2.2.2.2.2.2.2.2.2.2.1
  have z9_b : z9 ≤ 2147483647 := hp.2.2.2.2.2.2.2.2.2.2.2.2.2.1
  have z10_a : 0 ≤ z10 := hp.2.2.2.2.2.2.2.2.2.2.2.2.2.2.1
  have z10_b : z10 ≤ 940 := hp.2.2.2.2.2.2.2.2.2.2.2.2.2.2.2.1
  have pq11 : ∀ x : Tk × Int × Int, gC T x x13 x12 x11 y0 r0 x14 o0 → onP T f7 x9 x10 x7 2 60 x z1 z9 z10 (fun y => gC T y z4 z3 z2 fy6 fr7 z8 fo5) := hp.2.2.2.2.2.2.2.2.2.2.2.2.2.2.2.2.1
  have pq12 : kpF z1 x15 z9 := hp.2.2.2.2.2.2.2.2.2.2.2.2.2.2.2.2.2
  have w : WD D A s.heap [(a0, .inr (9, [.ref a2, .ref a3, .ref a4, .ref a5, .ref a6, .ref a7, .ref a8, .ref a9, .ref a10, .int (iI x0), .int (iI x1), .int (iI x2), .int (iI x3), .int (iI x4), .int (iI x5), .int (iI x6), .int (iI x7), .int (iI x8)])), (a2, .inl (T 1, 9, .inr (.inl h0))), (a3, .inl (T 0, 9, .inl (cI f0))), (a4, .inl (T 0, 9, .inl (cI f1))), (a5, .inl (T 0, 9, .inl (cI f2))), (a6, .inl (T 0, 9, .inl (cI f3))), (a7, .inl (T 0, 9, .inl (cI f4))), (a8, .inl (T 0, 9, .inl (cI f5))), (a9, .inl (T 1, 3, .inr (.inl h1))), (a10, .inl (T 0, 3, .inl (cI f6))), (a1, .inr (8, [.ref a11, .int (iI x9), .int (iI x10), .int (iI z2), .int (iI z3), .int (iI z4), (va_rf fo5), .long fy6, .int fr7, .int (iI z8), .int (iI z9), .int (iI z10)])), (a11, .inl (T 0, 940, .inl (cI f7)))] H locs := w
  refine r_put (ws' := [(a0, .inr (9, [.ref a2, .ref a3, .ref a4, .ref a5, .ref a6, .ref a7, .ref a8, .ref a9, .ref a10, .int (iI x0), .int (iI x1), .int (iI x2), .int (iI x3), .int (iI z1), .int (iI x5), .int (iI x6), .int (iI x7), .int (iI x8)])), (a2, .inl (T 1, 9, .inr (.inl h0))), (a3, .inl (T 0, 9, .inl (cI f0))), (a4, .inl (T 0, 9, .inl (cI f1))), (a5, .inl (T 0, 9, .inl (cI f2))), (a6, .inl (T 0, 9, .inl (cI f3))), (a7, .inl (T 0, 9, .inl (cI f4))), (a8, .inl (T 0, 9, .inl (cI f5))), (a9, .inl (T 1, 3, .inr (.inl h1))), (a10, .inl (T 0, 3, .inl (cI f6))), (a1, .inr (8, [.ref a11, .int (iI x9), .int (iI x10), .int (iI z2), .int (iI z3), .int (iI z4), (va_rf fo5), .long fy6, .int fr7, .int (iI z8), .int (iI z9), .int (iI z10)])), (a11, .inl (T 0, 940, .inl (cI f7)))]) M w 0 13 clX9 rfl (by decide) G400 rfl rfl rfl rfl (Nat.le_of_ble_eq_true rfl) rfl dX9_readYear_13 (fun H locs w => ?_)
  refine lv_aload_n hx hb dX9_readYear_16 rfl (lv_at hl 0 rfl) ?_
  refine lv_iconst (v := iI 1) hx hb dX9_readYear_17 (by decide +kernel) ?_
  refine r_put (ws' := [(a0, .inr (9, [.ref a2, .ref a3, .ref a4, .ref a5, .ref a6, .ref a7, .ref a8, .ref a9, .ref a10, .int (iI x0), .int (iI x1), .int (iI x2), .int (iI x3), .int (iI z1), .int (iI x5), .int (iI x6), .int (iI 1), .int (iI x8)])), (a2, .inl (T 1, 9, .inr (.inl h0))), (a3, .inl (T 0, 9, .inl (cI f0))), (a4, .inl (T 0, 9, .inl (cI f1))), (a5, .inl (T 0, 9, .inl (cI f2))), (a6, .inl (T 0, 9, .inl (cI f3))), (a7, .inl (T 0, 9, .inl (cI f4))), (a8, .inl (T 0, 9, .inl (cI f5))), (a9, .inl (T 1, 3, .inr (.inl h1))), (a10, .inl (T 0, 3, .inl (cI f6))), (a1, .inr (8, [.ref a11, .int (iI x9), .int (iI x10), .int (iI z2), .int (iI z3), .int (iI z4), (va_rf fo5), .long fy6, .int fr7, .int (iI z8), .int (iI z9), .int (iI z10)])), (a11, .inl (T 0, 940, .inl (cI f7)))]) M w 0 16 clX9 rfl (by decide) G405 rfl rfl (by decide +kernel) (by decide +kernel) (Nat.le_of_ble_eq_true rfl) rfl dX9_readYear_18 (fun H locs w => ?_)
  refine lv_aload_n hx hb dX9_readYear_21 rfl (lv_at hl 0 rfl) ?_
  refine r_get (v := .int (iI z1)) M w 0 13 clX9 rfl (by decide) G400 rfl rfl dX9_readYear_22 ?_
  refine lv_iconst (v := iI (-1)) hx hb dX9_readYear_25 (by decide +kernel) ?_
  refine lv_icmp_eq (tgt := 33) hx hb dX9_readYear_26 (by decide) (fun c_13 => ?_) (fun c_13 => ?_)
  · replace c_13 := (iI_eq (Int.le_trans (by decide) z1_a) (Int.le_trans z1_b (by decide)) (by decide) (by decide)).mp c_13
    refine lv_iconst (v := iI 0) hx hb dX9_readYear_33 (by decide +kernel) ?_
    exact ret _ (0, z1, 1, z2, z3, z4, fo5, fy6, fr7, z8, z9, z10) _ _ _ _ _ [0, 10, 1, 2, 3, 4, 5, 6, 7, 8, 9, 11] dX9_readYear_34 (by decide +kernel) ⟨rfl, (show (0 : Int) ≤ 0 from by decide), (show (0 : Int) ≤ 1 from by decide), z1_a, z1_b, (show (0 : Int) ≤ 1 from by decide), (show (1 : Int) ≤ 1 from by decide), z2_a, z2_b, z3_a, z3_b, z4_a, z4_b, fo5_h, z8_a, z8_b, z9_a, z9_b, z10_a, z10_b, (show ∀ (x : Tk × Int × Int) (rd : Int → Int) (h : Nat → Int64) (o : Int → Int), gC T x x13 x12 x11 y0 r0 x14 o0 → XW rd h o h0 f0 f1 f2 f3 f4 f5 h1 f6 x0 x1 x3 x4 x5 x6 x7 x8 → XP (sOnce f7 x9 x10 x rd h o 1 2 60) 0 z9 z10 (fun y => gC T y z4 z3 z2 fy6 fr7 z8 fo5) (fun rd h o => XW rd h o h0 f0 f1 f2 f3 f4 f5 h1 f6 x0 x1 x3 z1 x5 x6 1 x8) from (by intro x rd h o hx hw; have hw1 := hw.1; exact xonce (pq11 x hx) (by omega) (by omega) (fun e => absurd (by omega) e))), (show kpB 0 x15 z9 from (fun e => absurd e (by decide)))⟩ w (by decide) rfl
  · replace c_13 : ¬ z1 = (-1) := fun h => c_13 ((iI_eq (Int.le_trans (by decide) z1_a) (Int.le_trans z1_b (by decide)) (by decide) (by decide)).mpr h)
    refine lv_iconst (v := iI 1) hx hb dX9_readYear_29 (by decide +kernel) ?_
    refine lv_goto (tgt := 34) hx hb dX9_readYear_30 (by decide) ?_
    exact ret _ (1, z1, 1, z2, z3, z4, fo5, fy6, fr7, z8, z9, z10) _ _ _ _ _ [0, 10, 1, 2, 3, 4, 5, 6, 7, 8, 9, 11] dX9_readYear_34 (by decide +kernel) ⟨rfl, (show (0 : Int) ≤ 1 from by decide), (show (1 : Int) ≤ 1 from by decide), z1_a, z1_b, (show (0 : Int) ≤ 1 from by decide), (show (1 : Int) ≤ 1 from by decide), z2_a, z2_b, z3_a, z3_b, z4_a, z4_b, fo5_h, z8_a, z8_b, z9_a, z9_b, z10_a, z10_b, (show ∀ (x : Tk × Int × Int) (rd : Int → Int) (h : Nat → Int64) (o : Int → Int), gC T x x13 x12 x11 y0 r0 x14 o0 → XW rd h o h0 f0 f1 f2 f3 f4 f5 h1 f6 x0 x1 x3 x4 x5 x6 x7 x8 → XP (sOnce f7 x9 x10 x rd h o 1 2 60) 1 z9 z10 (fun y => gC T y z4 z3 z2 fy6 fr7 z8 fo5) (fun rd h o => XW rd h o h0 f0 f1 f2 f3 f4 f5 h1 f6 x0 x1 x3 z1 x5 x6 1 x8) from (by intro x rd h o hx hw; have hw1 := hw.1; exact xonce (pq11 x hx) (by omega) (by omega) (fun e => xw_o1 hw))), (show kpB 1 x15 z9 from (fun hr => by have y0 := pq12 (by omega); omega))⟩ w (by decide) rfl
set_option maxRecDepth 100000 in
set_option maxHeartbeats 4000000 in
theorem c281_X9_readSpare (l : Launch) (D : va_G) (T : Nat → ClassId) (sz : Nat) (a0 : Nat) (a1 : Nat) (a2 : Nat) (a3 : Nat) (a4 : Nat) (a5 : Nat) (a6 : Nat) (a7 : Nat) (a8 : Nat) (a9 : Nat) (a10 : Nat) (x0 : Int) (x1 : Int) (x2 : Int) (x3 : Int) (x4 : Int) (x5 : Int) (x6 : Int) (x7 : Int) (x8 : Int) (a11 : Nat) (x9 : Int) (x10 : Int) (x11 : Int) (x12 : Int) (x13 : Int) (o0 : Option Nat) (y0 : Int64) (r0 : Int32) (x14 : Int) (x15 : Int) (x16 : Int) (h0 : Nat → Int64) (f0 : Int → Int) (f1 : Int → Int) (f2 : Int → Int) (f3 : Int → Int) (f4 : Int → Int) (f5 : Int → Int) (h1 : Nat → Int64) (f6 : Int → Int) (f7 : Int → Int) (x0_a : 0 ≤ x0) (x0_b : x0 ≤ 9) (x1_a : 0 ≤ x1) (x1_b : x1 ≤ 3) (x2_a : 0 ≤ x2) (x2_b : x2 ≤ 900) (x3_a : (-2147483648) ≤ x3) (x3_b : x3 ≤ 2147483647) (x4_a : (-2147483648) ≤ x4) (x4_b : x4 ≤ 2147483647) (x5_a : (-2147483648) ≤ x5) (x5_b : x5 ≤ 2147483647) (x6_a : 0 ≤ x6) (x6_b : x6 ≤ 1) (x7_a : 0 ≤ x7) (x7_b : x7 ≤ 1) (x8_a : 0 ≤ x8) (x8_b : x8 ≤ 1) (x9_a : 0 ≤ x9) (x9_b : x9 ≤ 940) (x10_a : 0 ≤ x10) (x10_b : x10 ≤ 940) (x11_a : 0 ≤ x11) (x11_b : x11 ≤ 940) (x12_a : 0 ≤ x12) (x12_b : x12 ≤ 940) (x13_a : 0 ≤ x13) (x13_b : x13 ≤ 5) (o0_h : wok T o0) (x14_a : (-2147483648) ≤ x14) (x14_b : x14 ≤ 2147483647) (x15_a : (-2147483648) ≤ x15) (x15_b : x15 ≤ 2147483647) (x16_a : 0 ≤ x16) (x16_b : x16 ≤ 940) (f0_h : rng (-2147483648) 2147483647 f0) (f1_h : rng (-2147483648) 2147483647 f1) (f2_h : rng (-2147483648) 2147483647 f2) (f3_h : rng 0 511 f3) (f4_h : rng (-1) 8 f4) (f5_h : rng (-1) 8 f5) (f6_h : rng (-2147483648) 2147483647 f6) (f7_h : rng 0 255 f7) : Met l yX9_readSpare (Cond.code yX9_readSpare cX9_readSpare 2 (some .boolean) :: GW) (Rm 6 0 0) (cPre [.ref a0, .ref a1] D T [(a0, .inr (9, [.ref a2, .ref a3, .ref a4, .ref a5, .ref a6, .ref a7, .ref a8, .ref a9, .ref a10, .int (iI x0), .int (iI x1), .int (iI x2), .int (iI x3), .int (iI x4), .int (iI x5), .int (iI x6), .int (iI x7), .int (iI x8)])), (a1, .inr (8, [.ref a11, .int (iI x9), .int (iI x10), .int (iI x11), .int (iI x12), .int (iI x13), (va_rf o0), .long y0, .int r0, .int (iI x14), .int (iI x15), .int (iI x16)])), (a2, .inl (T 1, 9, .inr (.inl h0))), (a3, .inl (T 0, 9, .inl (cI f0))), (a4, .inl (T 0, 9, .inl (cI f1))), (a5, .inl (T 0, 9, .inl (cI f2))), (a6, .inl (T 0, 9, .inl (cI f3))), (a7, .inl (T 0, 9, .inl (cI f4))), (a8, .inl (T 0, 9, .inl (cI f5))), (a9, .inl (T 1, 3, .inr (.inl h1))), (a10, .inl (T 0, 3, .inl (cI f6))), (a11, .inl (T 0, 940, .inl (cI f7)))] sz) (qI D [(a0, .inr (9, [.ref a2, .ref a3, .ref a4, .ref a5, .ref a6, .ref a7, .ref a8, .ref a9, .ref a10, .int (iI x0), .int (iI x1), .int (iI x2), .int (iI x3), .int (iI x4), .int (iI x5), .int (iI x6), .int (iI x7), .int (iI x8)])), (a1, .inr (8, [.ref a11, .int (iI x9), .int (iI x10), .int (iI x11), .int (iI x12), .int (iI x13), (va_rf o0), .long y0, .int r0, .int (iI x14), .int (iI x15), .int (iI x16)])), (a2, .inl (T 1, 9, .inr (.inl h0))), (a3, .inl (T 0, 9, .inl (cI f0))), (a4, .inl (T 0, 9, .inl (cI f1))), (a5, .inl (T 0, 9, .inl (cI f2))), (a6, .inl (T 0, 9, .inl (cI f3))), (a7, .inl (T 0, 9, .inl (cI f4))), (a8, .inl (T 0, 9, .inl (cI f5))), (a9, .inl (T 1, 3, .inr (.inl h1))), (a10, .inl (T 0, 3, .inl (cI f6))), (a11, .inl (T 0, 940, .inl (cI f7)))] sz (fun (v : Int32) (u : Int × Int × Int × Int × Int × Int × Option Nat × Int64 × Int32 × Int × Int × Int) => iI u.1 = v ∧ 0 ≤ u.1 ∧ u.1 ≤ 1 ∧ (-2147483648) ≤ u.2.1 ∧ u.2.1 ≤ 2147483647 ∧ 0 ≤ u.2.2.1 ∧ u.2.2.1 ≤ 1 ∧ 0 ≤ u.2.2.2.1 ∧ u.2.2.2.1 ≤ 940 ∧ 0 ≤ u.2.2.2.2.1 ∧ u.2.2.2.2.1 ≤ 940 ∧ 0 ≤ u.2.2.2.2.2.1 ∧ u.2.2.2.2.2.1 ≤ 5 ∧ wok T u.2.2.2.2.2.2.1 ∧ (-2147483648) ≤ u.2.2.2.2.2.2.2.2.2.1 ∧ u.2.2.2.2.2.2.2.2.2.1 ≤ 2147483647 ∧ (-2147483648) ≤ u.2.2.2.2.2.2.2.2.2.2.1 ∧ u.2.2.2.2.2.2.2.2.2.2.1 ≤ 2147483647 ∧ 0 ≤ u.2.2.2.2.2.2.2.2.2.2.2 ∧ u.2.2.2.2.2.2.2.2.2.2.2 ≤ 940 ∧ (∀ (x : Tk × Int × Int) (rd : Int → Int) (h : Nat → Int64) (o : Int → Int), gC T x x13 x12 x11 y0 r0 x14 o0 → XW rd h o h0 f0 f1 f2 f3 f4 f5 h1 f6 x0 x1 x3 x4 x5 x6 x7 x8 → XP (sOnce f7 x9 x10 x rd h o 0 0 20) u.1 u.2.2.2.2.2.2.2.2.2.2.1 u.2.2.2.2.2.2.2.2.2.2.2 (fun y => gC T y u.2.2.2.2.2.1 u.2.2.2.2.1 u.2.2.2.1 u.2.2.2.2.2.2.2.1 u.2.2.2.2.2.2.2.2.1 u.2.2.2.2.2.2.2.2.2.1 u.2.2.2.2.2.2.1) (fun rd h o => XW rd h o h0 f0 f1 f2 f3 f4 f5 h1 f6 x0 x1 u.2.1 x4 x5 u.2.2.1 x7 x8)) ∧ (kpB u.1 x15 u.2.2.2.2.2.2.2.2.2.2.1)) (fun u => [(a0, .inr (9, [.ref a2, .ref a3, .ref a4, .ref a5, .ref a6, .ref a7, .ref a8, .ref a9, .ref a10, .int (iI x0), .int (iI x1), .int (iI x2), .int (iI u.2.1), .int (iI x4), .int (iI x5), .int (iI u.2.2.1), .int (iI x7), .int (iI x8)])), (a1, .inr (8, [.ref a11, .int (iI x9), .int (iI x10), .int (iI u.2.2.2.1), .int (iI u.2.2.2.2.1), .int (iI u.2.2.2.2.2.1), (va_rf u.2.2.2.2.2.2.1), .long u.2.2.2.2.2.2.2.1, .int u.2.2.2.2.2.2.2.2.1, .int (iI u.2.2.2.2.2.2.2.2.2.1), .int (iI u.2.2.2.2.2.2.2.2.2.2.1), .int (iI u.2.2.2.2.2.2.2.2.2.2.2)])), (a2, .inl (T 1, 9, .inr (.inl h0))), (a3, .inl (T 0, 9, .inl (cI f0))), (a4, .inl (T 0, 9, .inl (cI f1))), (a5, .inl (T 0, 9, .inl (cI f2))), (a6, .inl (T 0, 9, .inl (cI f3))), (a7, .inl (T 0, 9, .inl (cI f4))), (a8, .inl (T 0, 9, .inl (cI f5))), (a9, .inl (T 1, 3, .inr (.inl h1))), (a10, .inl (T 0, 3, .inl (cI f6))), (a11, .inl (T 0, 940, .inl (cI f7)))])) 0 0 (va_A [(a0, .inr (9, [.ref a2, .ref a3, .ref a4, .ref a5, .ref a6, .ref a7, .ref a8, .ref a9, .ref a10, .int (iI x0), .int (iI x1), .int (iI x2), .int (iI x3), .int (iI x4), .int (iI x5), .int (iI x6), .int (iI x7), .int (iI x8)])), (a1, .inr (8, [.ref a11, .int (iI x9), .int (iI x10), .int (iI x11), .int (iI x12), .int (iI x13), (va_rf o0), .long y0, .int r0, .int (iI x14), .int (iI x15), .int (iI x16)])), (a2, .inl (T 1, 9, .inr (.inl h0))), (a3, .inl (T 0, 9, .inl (cI f0))), (a4, .inl (T 0, 9, .inl (cI f1))), (a5, .inl (T 0, 9, .inl (cI f2))), (a6, .inl (T 0, 9, .inl (cI f3))), (a7, .inl (T 0, 9, .inl (cI f4))), (a8, .inl (T 0, 9, .inl (cI f5))), (a9, .inl (T 1, 3, .inr (.inl h1))), (a10, .inl (T 0, 3, .inl (cI f6))), (a11, .inl (T 0, 940, .inl (cI f7)))] sz) := by
  refine e_Z (by decide) (Nat.le_of_ble_eq_true rfl) ?_
  intro p e s m args below meth c A Q ls M hin w ret hl
  have hx := M.1.1
  have hb := M.1.2.1
  have hl : lv_has ls 2 [(0, .ref a0), (1, .ref a1)] := hl
  refine lv_aload_n hx hb dX9_readSpare_0 rfl (lv_at hl 0 rfl) ?_
  refine lv_aload_n hx hb dX9_readSpare_1 rfl (lv_at hl 0 rfl) ?_
  refine lv_aload_n hx hb dX9_readSpare_2 rfl (lv_at hl 1 rfl) ?_
  refine lv_aload_n hx hb dX9_readSpare_3 rfl (lv_at hl 0 rfl) ?_
  refine r_get (v := .int (iI x6)) M w 0 15 clX9 rfl (by decide) G404 rfl rfl dX9_readSpare_4 ?_
  refine lv_iconst (v := iI 0) hx hb dX9_readSpare_7 (by decide +kernel) ?_
  refine lv_bipush (v := iI 20) hx hb dX9_readSpare_8 (by decide +kernel) ?_
  refine k_I (ce := 0) (sl := 0) (rest := [.ref a0]) (wr := [(a0, .inr (9, [.ref a2, .ref a3, .ref a4, .ref a5, .ref a6, .ref a7, .ref a8, .ref a9, .ref a10, .int (iI x0), .int (iI x1), .int (iI x2), .int (iI x3), .int (iI x4), .int (iI x5), .int (iI x6), .int (iI x7), .int (iI x8)])), (a2, .inl (T 1, 9, .inr (.inl h0))), (a3, .inl (T 0, 9, .inl (cI f0))), (a4, .inl (T 0, 9, .inl (cI f1))), (a5, .inl (T 0, 9, .inl (cI f2))), (a6, .inl (T 0, 9, .inl (cI f3))), (a7, .inl (T 0, 9, .inl (cI f4))), (a8, .inl (T 0, 9, .inl (cI f5))), (a9, .inl (T 1, 3, .inr (.inl h1))), (a10, .inl (T 0, 3, .inl (cI f6)))]) (r_V (f := 5) [1, 11] M w V_HookedCity_Town_175 G764 G12 (c278_X9_onceTold l D T _ a0 a1 x6 0 20 a11 x9 x10 x11 x12 x13 o0 y0 r0 x14 x15 x16 f7 x6_a x6_b (by decide) (by decide) (by decide) (by decide) x9_a x9_b x10_a x10_b x11_a x11_b x12_a x12_b x13_a x13_b o0_h x14_a x14_b x15_a x15_b x16_a x16_b f7_h) 0 clX9 rfl rfl (by decide) rfl hl.1 rfl (Nat.le_of_ble_eq_true rfl) dX9_readSpare_10 (by decide) (by decide) (by decide) (by decide)) w [1, 11] [0, 2, 3, 4, 5, 6, 7, 8, 9, 10] rfl rfl (by decide) (by decide) rfl rfl (fun v u H locs hp w => ?_)
  obtain ⟨z1, z2, z3, z4, fo5, fy6, fr7, z8, z9, z10⟩ := u
  have hv : iI z1 = v := hp.1
  subst hv
  have z1_a : (-2147483648) ≤ z1 := hp.2.1
  have z1_b : z1 ≤ 2147483647 := hp.2.2.1
  have z2_a : 0 ≤ z2 := hp.2.2.2.1
  have z2_b : z2 ≤ 940 := hp.2.2.2.2.1
  have z3_a : 0 ≤ z3 := hp.2.2.2.2.2.1
  have z3_b : z3 ≤ 940 := hp.2.2.2.2.2.2.1
  have z4_a : 0 ≤ z4 := hp.2.2.2.2.2.2.2.1
  have z4_b : z4 ≤ 5 := hp.2.2.2.2.2.2.2.2.1
  have fo5_h : wok T fo5 := hp.2.2.2.2.2.2.2.2.2.1
  have z8_a : (-2147483648) ≤ z8 := hp.2.2.2.2.2.2.2.2.2.2.1
  have z8_b : z8 ≤ 2147483647 := hp.2.2.2.2.2.2.2.2.2.2.2.1
  have z9_a : (-2147483648) ≤ z9 := hp.2.2.2.2.2.2.2.2.2.2.2.2.1
  have z9_b : z9 ≤ 2147483647 := hp.2.2.2.2.2.2.2.2.2.2.2.2.2.1
  have z10_a : 0 ≤ z10 := hp.2.2.2.2.2.2.2.2.2.2.2.2.2.2.1
  have z10_b : z10 ≤ 940 := hp.2.2.2.2.2.2.2.2.2.2.2.2.2.2.2.1
  have pq11 : ∀ x : Tk × Int × Int, gC T x x13 x12 x11 y0 r0 x14 o0 → onP T f7 x9 x10 x6 0 20 x z1 z9 z10 (fun y => gC T y z4 z3 z2 fy6 fr7 z8 fo5) := hp.2.2.2.2.2.2.2.2.2.2.2.2.2.2.2.2.1
  have pq12 : kpF z1 x15 z9 := hp.2.2.2.2.2.2.2.2.2.2.2.2.2.2.2.2.2
  have w : WD D A s.heap [(a0, .inr (9, [.ref a2, .ref a3, .ref a4, .ref a5, .ref a6, .ref a7, .ref a8, .ref a9, .ref a10, .int (iI x0), .int (iI x1), .int (iI x2), .int (iI x3), .int (iI x4), .int (iI x5), .int (iI x6), .int (iI x7), .int (iI x8)])), (a2, .inl (T 1, 9, .inr (.inl h0))), (a3, .inl (T 0, 9, .inl (cI f0))), (a4, .inl (T 0, 9, .inl (cI f1))), (a5, .inl (T 0, 9, .inl (cI f2))), (a6, .inl (T 0, 9, .inl (cI f3))), (a7, .inl (T 0, 9, .inl (cI f4))), (a8, .inl (T 0, 9, .inl (cI f5))), (a9, .inl (T 1, 3, .inr (.inl h1))), (a10, .inl (T 0, 3, .inl (cI f6))), (a1, .inr (8, [.ref a11, .int (iI x9), .int (iI x10), .int (iI z2), .int (iI z3), .int (iI z4), (va_rf fo5), .long fy6, .int fr7, .int (iI z8), .int (iI z9), .int (iI z10)])), (a11, .inl (T 0, 940, .inl (cI f7)))] H locs := w
  refine r_put (ws' := [(a0, .inr (9, [.ref a2, .ref a3, .ref a4, .ref a5, .ref a6, .ref a7, .ref a8, .ref a9, .ref a10, .int (iI x0), .int (iI x1), .int (iI x2), .int (iI z1), .int (iI x4), .int (iI x5), .int (iI x6), .int (iI x7), .int (iI x8)])), (a2, .inl (T 1, 9, .inr (.inl h0))), (a3, .inl (T 0, 9, .inl (cI f0))), (a4, .inl (T 0, 9, .inl (cI f1))), (a5, .inl (T 0, 9, .inl (cI f2))), (a6, .inl (T 0, 9, .inl (cI f3))), (a7, .inl (T 0, 9, .inl (cI f4))), (a8, .inl (T 0, 9, .inl (cI f5))), (a9, .inl (T 1, 3, .inr (.inl h1))), (a10, .inl (T 0, 3, .inl (cI f6))), (a1, .inr (8, [.ref a11, .int (iI x9), .int (iI x10), .int (iI z2), .int (iI z3), .int (iI z4), (va_rf fo5), .long fy6, .int fr7, .int (iI z8), .int (iI z9), .int (iI z10)])), (a11, .inl (T 0, 940, .inl (cI f7)))]) M w 0 12 clX9 rfl (by decide) G398 rfl rfl rfl rfl (Nat.le_of_ble_eq_true rfl) rfl dX9_readSpare_13 (fun H locs w => ?_)
  refine lv_aload_n hx hb dX9_readSpare_16 rfl (lv_at hl 0 rfl) ?_
  refine lv_iconst (v := iI 1) hx hb dX9_readSpare_17 (by decide +kernel) ?_
  refine r_put (ws' := [(a0, .inr (9, [.ref a2, .ref a3, .ref a4, .ref a5, .ref a6, .ref a7, .ref a8, .ref a9, .ref a10, .int (iI x0), .int (iI x1), .int (iI x2), .int (iI z1), .int (iI x4), .int (iI x5), .int (iI 1), .int (iI x7), .int (iI x8)])), (a2, .inl (T 1, 9, .inr (.inl h0))), (a3, .inl (T 0, 9, .inl (cI f0))), (a4, .inl (T 0, 9, .inl (cI f1))), (a5, .inl (T 0, 9, .inl (cI f2))), (a6, .inl (T 0, 9, .inl (cI f3))), (a7, .inl (T 0, 9, .inl (cI f4))), (a8, .inl (T 0, 9, .inl (cI f5))), (a9, .inl (T 1, 3, .inr (.inl h1))), (a10, .inl (T 0, 3, .inl (cI f6))), (a1, .inr (8, [.ref a11, .int (iI x9), .int (iI x10), .int (iI z2), .int (iI z3), .int (iI z4), (va_rf fo5), .long fy6, .int fr7, .int (iI z8), .int (iI z9), .int (iI z10)])), (a11, .inl (T 0, 940, .inl (cI f7)))]) M w 0 15 clX9 rfl (by decide) G404 rfl rfl (by decide +kernel) (by decide +kernel) (Nat.le_of_ble_eq_true rfl) rfl dX9_readSpare_18 (fun H locs w => ?_)
  refine lv_aload_n hx hb dX9_readSpare_21 rfl (lv_at hl 0 rfl) ?_
  refine r_get (v := .int (iI z1)) M w 0 12 clX9 rfl (by decide) G398 rfl rfl dX9_readSpare_22 ?_
  refine lv_iconst (v := iI (-1)) hx hb dX9_readSpare_25 (by decide +kernel) ?_
  refine lv_icmp_eq (tgt := 33) hx hb dX9_readSpare_26 (by decide) (fun c_13 => ?_) (fun c_13 => ?_)
  · replace c_13 := (iI_eq (Int.le_trans (by decide) z1_a) (Int.le_trans z1_b (by decide)) (by decide) (by decide)).mp c_13
    refine lv_iconst (v := iI 0) hx hb dX9_readSpare_33 (by decide +kernel) ?_
    exact ret _ (0, z1, 1, z2, z3, z4, fo5, fy6, fr7, z8, z9, z10) _ _ _ _ _ [0, 10, 1, 2, 3, 4, 5, 6, 7, 8, 9, 11] dX9_readSpare_34 (by decide +kernel) ⟨rfl, (show (0 : Int) ≤ 0 from by decide), (show (0 : Int) ≤ 1 from by decide), z1_a, z1_b, (show (0 : Int) ≤ 1 from by decide), (show (1 : Int) ≤ 1 from by decide), z2_a, z2_b, z3_a, z3_b, z4_a, z4_b, fo5_h, z8_a, z8_b, z9_a, z9_b, z10_a, z10_b, (show ∀ (x : Tk × Int × Int) (rd : Int → Int) (h : Nat → Int64) (o : Int → Int), gC T x x13 x12 x11 y0 r0 x14 o0 → XW rd h o h0 f0 f1 f2 f3 f4 f5 h1 f6 x0 x1 x3 x4 x5 x6 x7 x8 → XP (sOnce f7 x9 x10 x rd h o 0 0 20) 0 z9 z10 (fun y => gC T y z4 z3 z2 fy6 fr7 z8 fo5) (fun rd h o => XW rd h o h0 f0 f1 f2 f3 f4 f5 h1 f6 x0 x1 z1 x4 x5 1 x7 x8) from (by intro x rd h o hx hw; have hw1 := hw.1; exact xonce (pq11 x hx) (by omega) (by omega) (fun e => absurd (by omega) e))), (show kpB 0 x15 z9 from (fun e => absurd e (by decide)))⟩ w (by decide) rfl
  · replace c_13 : ¬ z1 = (-1) := fun h => c_13 ((iI_eq (Int.le_trans (by decide) z1_a) (Int.le_trans z1_b (by decide)) (by decide) (by decide)).mpr h)
    refine lv_iconst (v := iI 1) hx hb dX9_readSpare_29 (by decide +kernel) ?_
    refine lv_goto (tgt := 34) hx hb dX9_readSpare_30 (by decide) ?_
    exact ret _ (1, z1, 1, z2, z3, z4, fo5, fy6, fr7, z8, z9, z10) _ _ _ _ _ [0, 10, 1, 2, 3, 4, 5, 6, 7, 8, 9, 11] dX9_readSpare_34 (by decide +kernel) ⟨rfl, (show (0 : Int) ≤ 1 from by decide), (show (1 : Int) ≤ 1 from by decide), z1_a, z1_b, (show (0 : Int) ≤ 1 from by decide), (show (1 : Int) ≤ 1 from by decide), z2_a, z2_b, z3_a, z3_b, z4_a, z4_b, fo5_h, z8_a, z8_b, z9_a, z9_b, z10_a, z10_b, (show ∀ (x : Tk × Int × Int) (rd : Int → Int) (h : Nat → Int64) (o : Int → Int), gC T x x13 x12 x11 y0 r0 x14 o0 → XW rd h o h0 f0 f1 f2 f3 f4 f5 h1 f6 x0 x1 x3 x4 x5 x6 x7 x8 → XP (sOnce f7 x9 x10 x rd h o 0 0 20) 1 z9 z10 (fun y => gC T y z4 z3 z2 fy6 fr7 z8 fo5) (fun rd h o => XW rd h o h0 f0 f1 f2 f3 f4 f5 h1 f6 x0 x1 z1 x4 x5 1 x7 x8) from (by intro x rd h o hx hw; have hw1 := hw.1; exact xonce (pq11 x hx) (by omega) (by omega) (fun e => xw_o0 hw))), (show kpB 1 x15 z9 from (fun hr => by have y0 := pq12 (by omega); omega))⟩ w (by decide) rfl
set_option maxRecDepth 100000 in
set_option maxHeartbeats 4000000 in
theorem c282_X9_placeOf (l : Launch) (D : va_G) (T : Nat → ClassId) (sz : Nat) (a0 : Nat) (x0 : Int) (y0 : Int64) (h0 : Nat → Int64) (x0_a : 0 ≤ x0) (x0_b : x0 ≤ 9) : Met l yX9_placeOf (Cond.code yX9_placeOf cX9_placeOf 5 (some .int) :: GW) (Rm 0 0 0) (cPre [.ref a0, .int (iI x0), .long y0] D T [(a0, .inl (T 1, 9, .inr (.inl h0)))] sz) (qI D [(a0, .inl (T 1, 9, .inr (.inl h0)))] sz (fun (v : Int32) (u : Int) => iI u = v ∧ (-1) ≤ u ∧ u ≤ 8 ∧ 0 ≤ ((x0 - u) - 1) ∧ (x0 ≤ 9 → u = FI h0 0 x0 y0)) (fun u => [(a0, .inl (T 1, 9, .inr (.inl h0)))])) 0 0 (va_A [(a0, .inl (T 1, 9, .inr (.inl h0)))] sz) := by
  refine e_I (by decide) (Nat.le_of_ble_eq_true rfl) ?_
  intro p e s m args below meth c A Q ls M hin w ret hl
  have hx := M.1.1
  have hb := M.1.2.1
  have hl : lv_has ls 5 [(0, .ref a0), (1, .int (iI x0)), (2, .long y0)] := hl
  refine lv_iconst (v := iI 0) hx hb dX9_placeOf_0 (by decide +kernel) ?_
  refine lv_istore (lv' := [(4, .int (iI 0)), (0, .ref a0), (1, .int (iI x0)), (2, .long y0)]) hx hb dX9_placeOf_1 hl (by decide) rfl (fun ls hl => ?_)
  have loop1 : ∀ (k1 : Nat) (z1 : Int) (H : Heap) (locs : List Loc) (ls : Array Slot), 0 ≤ z1 → z1 ≤ 9 → FI h0 0 x0 y0 = fiN h0 0 y0 (x0 - z1).toNat z1 → ((x0 - z1) : Int).toNat < k1 → WD D A s.heap [(a0, .inl (T 1, 9, .inr (.inl h0)))] H locs → lv_has ls 5 [(4, .int (iI z1)), (0, .ref a0), (1, .int (iI x0)), (2, .long y0)] → W p l e (Rm 0 0 0) s m args below meth c H locs 0 0 Q (F0 m 3 ls []) := by
    intro k1
    induction k1 with
    | zero => intro z1 H locs ls z1_a z1_b lq1_f hm; exact absurd hm (Nat.not_lt_zero _)
    | succ k1 ih1 =>
      intro z1 H locs ls z1_a z1_b lq1_f hm1 w hl
      refine lv_iload hx hb dX9_placeOf_3 (lv_at hl 0 rfl) ?_
      refine lv_iload_n hx hb dX9_placeOf_5 rfl (lv_at hl 2 rfl) ?_
      refine lv_icmp_ge (tgt := 34) hx hb dX9_placeOf_6 (by decide) (fun c_2 => ?_) (fun c_2 => ?_)
      · replace c_2 := (iI_le (Int.le_trans (by decide) x0_a) (Int.le_trans x0_b (by decide)) (Int.le_trans (by decide) z1_a) (Int.le_trans z1_b (by decide))).mp c_2
        refine lv_iconst (v := iI (-1)) hx hb dX9_placeOf_34 (by decide +kernel) ?_
        exact ret _ (-1) _ _ _ _ _ [0] dX9_placeOf_35 ⟨rfl, (show (-1) ≤ (-1) from by decide), (show ((-1) : Int) ≤ 8 from by decide), (show 0 ≤ ((x0 - (-1)) - 1) from by omega), (show x0 ≤ 9 → (-1) = FI h0 0 x0 y0 from (fun h9 => fi_end lq1_f (by omega)))⟩ w (by decide) rfl
      · replace c_2 : z1 < x0 := Int.not_le.mp (fun h => c_2 ((iI_le (Int.le_trans (by decide) x0_a) (Int.le_trans x0_b (by decide)) (Int.le_trans (by decide) z1_a) (Int.le_trans z1_b (by decide))).mpr h))
        refine lv_iload hx hb dX9_placeOf_9 (lv_at hl 0 rfl) ?_
        refine lv_aload_n hx hb dX9_placeOf_11 rfl (lv_at hl 1 rfl) ?_
        refine r_alen (v := iI 9) M w 0 1 rfl rfl (show Int32.ofNat 9 = iI 9 from by decide +kernel) dX9_placeOf_12 ?_
        refine lv_icmp_ge (tgt := 34) hx hb dX9_placeOf_13 (by decide) (fun c_3 => ?_) (fun c_3 => ?_)
        · replace c_3 := (iI_le (by decide) (by decide) (Int.le_trans (by decide) z1_a) (Int.le_trans z1_b (by decide))).mp c_3
          exfalso; omega
        · replace c_3 : z1 < 9 := Int.not_le.mp (fun h => c_3 ((iI_le (by decide) (by decide) (Int.le_trans (by decide) z1_a) (Int.le_trans z1_b (by decide))).mpr h))
          refine lv_aload_n hx hb dX9_placeOf_16 rfl (lv_at hl 1 rfl) ?_
          refine lv_iload hx hb dX9_placeOf_17 (lv_at hl 0 rfl) ?_
          refine r_lald (v := (h0 (Int32.toNatClampNeg (iI z1)))) M w 0 rfl (iI_in (by omega) (by omega) (by decide)) rfl dX9_placeOf_19 ?_
          refine lv_lload_n hx hb dX9_placeOf_20 rfl (lv_at hl 3 rfl) ?_
          refine r_lcmp (v := lg_cmp (h0 (Int32.toNatClampNeg (iI z1))) y0) M rfl dX9_placeOf_21 ?_
          refine lv_if_ne (tgt := 28) hx hb dX9_placeOf_22 (by decide) (fun c_4 => ?_) (fun c_4 => ?_)
          · refine lv_iinc (v := iI (z1 + 1)) (lv' := [(4, .int (iI (z1 + 1))), (0, .ref a0), (1, .int (iI x0)), (2, .long y0)]) hx hb dX9_placeOf_28 hl (k := 0) rfl (ii_inc (by decide +kernel)) (by decide) rfl (fun ls hl => ?_)
            refine lv_goto (tgt := 3) hx hb dX9_placeOf_31 (by decide) ?_
            exact ih1 (z1 + 1) _ _ _ (by omega) (by omega) (fi_no0 lq1_f (by omega) c_4) (by omega) w (lv_sub hl [0, 1, 2, 3] rfl)
          · refine lv_iload hx hb dX9_placeOf_25 (lv_at hl 0 rfl) ?_
            exact ret _ z1 _ _ _ _ _ [0] dX9_placeOf_27 ⟨rfl, (show (-1) ≤ z1 from by omega), (show z1 ≤ 8 from by omega), (show 0 ≤ ((x0 - z1) - 1) from by omega), (show x0 ≤ 9 → z1 = FI h0 0 x0 y0 from (fun _ => fi_hit0 lq1_f (by omega) c_4))⟩ w (by decide) rfl
  exact loop1 (((x0 - 0) : Int).toNat + 1) 0 _ _ _ (by decide) (by decide) fi_0 (Nat.lt_succ_self _) w (lv_sub hl [0, 1, 2, 3] rfl)
set_option maxRecDepth 100000 in
set_option maxHeartbeats 4000000 in
theorem c283_X9_nameAt (l : Launch) (D : va_G) (T : Nat → ClassId) (sz : Nat) (a0 : Nat) (a1 : Nat) (a2 : Nat) (x0 : Int) (a3 : Nat) (x1 : Int) (x2 : Int) (x3 : Int) (x4 : Int) (x5 : Int) (o0 : Option Nat) (y0 : Int64) (r0 : Int32) (x6 : Int) (x7 : Int) (x8 : Int) (h0 : Nat → Int64) (f0 : Int → Int) (x0_a : 0 ≤ x0) (x0_b : x0 ≤ 9) (x1_a : 0 ≤ x1) (x1_b : x1 ≤ 940) (x2_a : 0 ≤ x2) (x2_b : x2 ≤ 940) (x3_a : 0 ≤ x3) (x3_b : x3 ≤ 940) (x4_a : 0 ≤ x4) (x4_b : x4 ≤ 940) (x5_a : 0 ≤ x5) (x5_b : x5 ≤ 5) (o0_h : wok T o0) (x6_a : (-2147483648) ≤ x6) (x6_b : x6 ≤ 2147483647) (x7_a : (-2147483648) ≤ x7) (x7_b : x7 ≤ 2147483647) (x8_a : 0 ≤ x8) (x8_b : x8 ≤ 940) (f0_h : rng 0 255 f0) : Met l yX9_nameAt (Cond.code yX9_nameAt cX9_nameAt 5 (some .int) :: GW) (Rm 1 0 0) (cPre [.ref a0, .ref a1, .ref a2, .int (iI x0)] D T [(a1, .inr (8, [.ref a3, .int (iI x1), .int (iI x2), .int (iI x3), .int (iI x4), .int (iI x5), (va_rf o0), .long y0, .int r0, .int (iI x6), .int (iI x7), .int (iI x8)])), (a2, .inl (T 1, 9, .inr (.inl h0))), (a3, .inl (T 0, 940, .inl (cI f0)))] sz) (qI D [(a1, .inr (8, [.ref a3, .int (iI x1), .int (iI x2), .int (iI x3), .int (iI x4), .int (iI x5), (va_rf o0), .long y0, .int r0, .int (iI x6), .int (iI x7), .int (iI x8)])), (a2, .inl (T 1, 9, .inr (.inl h0))), (a3, .inl (T 0, 940, .inl (cI f0)))] sz (fun (v : Int32) (u : Int × Int × Int) => iI u.1 = v ∧ (-1) ≤ u.1 ∧ u.1 ≤ 8 ∧ (-2147483648) ≤ u.2.1 ∧ u.2.1 ≤ 2147483647 ∧ 0 ≤ u.2.2 ∧ u.2.2 ≤ 940 ∧ 0 ≤ ((x0 - u.1) - 1) ∧ (x0 ≤ 9 → ∀ x : Tk × Int × Int, gC T x x5 x4 x3 y0 r0 x6 o0 → XV (sNa h0 x0 x) u.1 u.2.1 u.2.2) ∧ (kpF u.1 x7 u.2.1)) (fun u => [(a1, .inr (8, [.ref a3, .int (iI x1), .int (iI x2), .int (iI x3), .int (iI x4), .int (iI x5), (va_rf o0), .long y0, .int r0, .int (iI x6), .int (iI u.2.1), .int (iI u.2.2)])), (a2, .inl (T 1, 9, .inr (.inl h0))), (a3, .inl (T 0, 940, .inl (cI f0)))])) 0 0 (va_A [(a1, .inr (8, [.ref a3, .int (iI x1), .int (iI x2), .int (iI x3), .int (iI x4), .int (iI x5), (va_rf o0), .long y0, .int r0, .int (iI x6), .int (iI x7), .int (iI x8)])), (a2, .inl (T 1, 9, .inr (.inl h0))), (a3, .inl (T 0, 940, .inl (cI f0)))] sz) := by
  refine e_I (by decide) (Nat.le_of_ble_eq_true rfl) ?_
  intro p e s m args below meth c A Q ls M hin w ret hl
  have hx := M.1.1
  have hb := M.1.2.1
  have hl : lv_has ls 5 [(0, .ref a0), (1, .ref a1), (2, .ref a2), (3, .int (iI x0))] := hl
  refine lv_aload_n hx hb dX9_nameAt_0 rfl (lv_at hl 1 rfl) ?_
  refine r_getN (v := .int (iI x5)) M w 0 5 clX8 rfl (by decide) N169 rfl rfl dX9_nameAt_1 ?_
  refine lv_iconst (v := iI 3) hx hb dX9_nameAt_4 (by decide +kernel) ?_
  refine lv_icmp_eq (tgt := 16) hx hb dX9_nameAt_5 (by decide) (fun c_1 => ?_) (fun c_1 => ?_)
  · replace c_1 := (iI_eq (Int.le_trans (by decide) x5_a) (Int.le_trans x5_b (by decide)) (by decide) (by decide)).mp c_1
    refine lv_aload_n hx hb dX9_nameAt_16 rfl (lv_at hl 2 rfl) ?_
    refine lv_iload_n hx hb dX9_nameAt_17 rfl (lv_at hl 3 rfl) ?_
    refine lv_aload_n hx hb dX9_nameAt_18 rfl (lv_at hl 1 rfl) ?_
    refine r_getN (v := .long y0) M w 0 7 clX8 rfl (by decide) N175 rfl rfl dX9_nameAt_19 ?_
    refine k_I (ce := 0) (sl := 0) (rest := []) (wr := [(a1, .inr (8, [.ref a3, .int (iI x1), .int (iI x2), .int (iI x3), .int (iI x4), .int (iI x5), (va_rf o0), .long y0, .int r0, .int (iI x6), .int (iI x7), .int (iI x8)])), (a3, .inl (T 0, 940, .inl (cI f0)))]) (r_S (f := 0) [1] M w V_HookedCity_Town_182 G719 (c282_X9_placeOf l D T _ a2 x0 y0 h0 x0_a x0_b) rfl (by decide) rfl hl.1 rfl (Nat.le_of_ble_eq_true rfl) dX9_nameAt_22 (by decide) (by decide) (by decide) (by decide)) w [1] [0, 2] rfl rfl (by decide) (by decide) rfl rfl (fun v z2 H locs hp w => ?_)
    have hv : iI z2 = v := hp.1
    subst hv
    have z2_a : (-1) ≤ z2 := hp.2.1
    have z2_b : z2 ≤ 8 := hp.2.2.1
    have ee3 : 0 ≤ ((x0 - z2) - 1) := hp.2.2.2.1
    have pq4 : x0 ≤ 9 → z2 = FI h0 0 x0 y0 := hp.2.2.2.2
    have w : WD D A s.heap [(a1, .inr (8, [.ref a3, .int (iI x1), .int (iI x2), .int (iI x3), .int (iI x4), .int (iI x5), (va_rf o0), .long y0, .int r0, .int (iI x6), .int (iI x7), .int (iI x8)])), (a3, .inl (T 0, 940, .inl (cI f0))), (a2, .inl (T 1, 9, .inr (.inl h0)))] H locs := w
    refine lv_istore (lv' := [(4, .int (iI z2)), (0, .ref a0), (1, .ref a1), (2, .ref a2), (3, .int (iI x0))]) hx hb dX9_nameAt_25 hl (by decide) rfl (fun ls hl => ?_)
    refine lv_iload hx hb dX9_nameAt_27 (lv_at hl 0 rfl) ?_
    refine lv_iconst (v := iI (-1)) hx hb dX9_nameAt_29 (by decide +kernel) ?_
    refine lv_icmp_ne (tgt := 39) hx hb dX9_nameAt_30 (by decide) (fun c_5 => ?_) (fun c_5 => ?_)
    · replace c_5 : ¬ z2 = (-1) := fun h => c_5 ((iI_eq (Int.le_trans (by decide) z2_a) (Int.le_trans z2_b (by decide)) (by decide) (by decide)).mpr h)
      refine lv_iload hx hb dX9_nameAt_39 (lv_at hl 0 rfl) ?_
      exact ret _ (z2, x7, x8) _ _ _ _ _ [0, 2, 1] dX9_nameAt_41 ⟨rfl, z2_a, z2_b, x7_a, x7_b, x8_a, x8_b, (show 0 ≤ ((x0 - z2) - 1) from by omega), (show x0 ≤ 9 → ∀ x : Tk × Int × Int, gC T x x5 x4 x3 y0 r0 x6 o0 → XV (sNa h0 x0 x) z2 x7 x8 from (fun hm => cna_C (by omega) (pq4 hm) (by omega) (by omega))), (show kpF z2 x7 x7 from (fun hr => by omega))⟩ w (by decide) rfl
    · replace c_5 := (iI_eq (Int.le_trans (by decide) z2_a) (Int.le_trans z2_b (by decide)) (by decide) (by decide)).mp c_5
      refine lv_aload_n hx hb dX9_nameAt_33 rfl (lv_at hl 2 rfl) ?_
      refine lv_iconst (v := iI 3) hx hb dX9_nameAt_34 (by decide +kernel) ?_
      refine k_I (ce := 0) (sl := 0) (rest := []) (wr := [(a3, .inl (T 0, 940, .inl (cI f0))), (a2, .inl (T 1, 9, .inr (.inl h0)))]) (r_V (f := 0) [0] M w V_HookedCity_Town_150 G710 G711 (c271_X8_fail l D T _ a1 3 a3 x1 x2 x3 x4 x5 o0 y0 r0 x6 x7 x8 (by decide) (by decide) x1_a x1_b x2_a x2_b x3_a x3_b x4_a x4_b x5_a x5_b o0_h x6_a x6_b x7_a x7_b x8_a x8_b) 0 clX8 rfl rfl (by decide) rfl hl.1 rfl (Nat.le_of_ble_eq_true rfl) dX9_nameAt_35 (by decide) (by decide) (by decide) (by decide)) w [0] [1, 2] rfl rfl (by decide) (by decide) rfl rfl (fun v u H locs hp w => ?_)
      obtain ⟨z6, z7, z8⟩ := u
      have hv : iI z6 = v := hp.1
      subst hv
      have z6_a : 0 ≤ z6 := hp.2.1
      have z6_b : z6 ≤ 1 := hp.2.2.1
      have z7_a : (-2147483648) ≤ z7 := hp.2.2.2.1
      have z7_b : z7 ≤ 2147483647 := hp.2.2.2.2.1
      have z8_a : 0 ≤ z8 := hp.2.2.2.2.2.1
      have z8_b : z8 ≤ 940 := hp.2.2.2.2.2.2.1
      have pq9 : z7 = 3 := hp.2.2.2.2.2.2.2.1
      have pq10 : z8 = x4 := hp.2.2.2.2.2.2.2.2.1
      have w : WD D A s.heap [(a3, .inl (T 0, 940, .inl (cI f0))), (a2, .inl (T 1, 9, .inr (.inl h0))), (a1, .inr (8, [.ref a3, .int (iI x1), .int (iI x2), .int (iI x3), .int (iI x4), .int (iI x5), (va_rf o0), .long y0, .int r0, .int (iI x6), .int (iI z7), .int (iI z8)]))] H locs := w
      rcases hp.2.2.2.2.2.2.2.2.2 with hr
      · subst hr
        refine lv_pop hx hb dX9_nameAt_38 rfl ?_
        refine lv_iload hx hb dX9_nameAt_39 (lv_at hl 0 rfl) ?_
        exact ret _ (z2, z7, z8) _ _ _ _ _ [2, 1, 0] dX9_nameAt_41 ⟨rfl, z2_a, z2_b, z7_a, z7_b, z8_a, z8_b, (show 0 ≤ ((x0 - z2) - 1) from by omega), (show x0 ≤ 9 → ∀ x : Tk × Int × Int, gC T x x5 x4 x3 y0 r0 x6 o0 → XV (sNa h0 x0 x) z2 z7 z8 from (fun hm => cna_B (by omega) (pq4 hm) (by omega) (by omega) pq10)), (show kpF z2 x7 z7 from (fun hr => by omega))⟩ w (by decide) rfl
  · replace c_1 : ¬ x5 = 3 := fun h => c_1 ((iI_eq (Int.le_trans (by decide) x5_a) (Int.le_trans x5_b (by decide)) (by decide) (by decide)).mpr h)
    refine lv_aload_n hx hb dX9_nameAt_8 rfl (lv_at hl 1 rfl) ?_
    refine lv_iconst (v := iI 1) hx hb dX9_nameAt_9 (by decide +kernel) ?_
    refine k_I (ce := 0) (sl := 0) (rest := []) (wr := [(a2, .inl (T 1, 9, .inr (.inl h0))), (a3, .inl (T 0, 940, .inl (cI f0)))]) (r_V (f := 0) [0] M w V_HookedCity_Town_150 G710 G711 (c271_X8_fail l D T _ a1 1 a3 x1 x2 x3 x4 x5 o0 y0 r0 x6 x7 x8 (by decide) (by decide) x1_a x1_b x2_a x2_b x3_a x3_b x4_a x4_b x5_a x5_b o0_h x6_a x6_b x7_a x7_b x8_a x8_b) 0 clX8 rfl rfl (by decide) rfl hl.1 rfl (Nat.le_of_ble_eq_true rfl) dX9_nameAt_10 (by decide) (by decide) (by decide) (by decide)) w [0] [1, 2] rfl rfl (by decide) (by decide) rfl rfl (fun v u H locs hp w => ?_)
    obtain ⟨z11, z12, z13⟩ := u
    have hv : iI z11 = v := hp.1
    subst hv
    have z11_a : 0 ≤ z11 := hp.2.1
    have z11_b : z11 ≤ 1 := hp.2.2.1
    have z12_a : (-2147483648) ≤ z12 := hp.2.2.2.1
    have z12_b : z12 ≤ 2147483647 := hp.2.2.2.2.1
    have z13_a : 0 ≤ z13 := hp.2.2.2.2.2.1
    have z13_b : z13 ≤ 940 := hp.2.2.2.2.2.2.1
    have pq14 : z12 = 1 := hp.2.2.2.2.2.2.2.1
    have pq15 : z13 = x4 := hp.2.2.2.2.2.2.2.2.1
    have w : WD D A s.heap [(a2, .inl (T 1, 9, .inr (.inl h0))), (a3, .inl (T 0, 940, .inl (cI f0))), (a1, .inr (8, [.ref a3, .int (iI x1), .int (iI x2), .int (iI x3), .int (iI x4), .int (iI x5), (va_rf o0), .long y0, .int r0, .int (iI x6), .int (iI z12), .int (iI z13)]))] H locs := w
    rcases hp.2.2.2.2.2.2.2.2.2 with hr
    · subst hr
      refine lv_pop hx hb dX9_nameAt_13 rfl ?_
      refine lv_iconst (v := iI (-1)) hx hb dX9_nameAt_14 (by decide +kernel) ?_
      exact ret _ ((-1), z12, z13) _ _ _ _ _ [2, 0, 1] dX9_nameAt_15 ⟨rfl, (show (-1) ≤ (-1) from by decide), (show ((-1) : Int) ≤ 8 from by decide), z12_a, z12_b, z13_a, z13_b, (show 0 ≤ ((x0 - (-1)) - 1) from by omega), (show x0 ≤ 9 → ∀ x : Tk × Int × Int, gC T x x5 x4 x3 y0 r0 x6 o0 → XV (sNa h0 x0 x) (-1) z12 z13 from (fun _ => cna_A (by omega) (by omega) pq15)), (show kpF (-1) x7 z12 from (fun e => absurd rfl e))⟩ w (by decide) rfl
set_option maxRecDepth 100000 in
set_option maxHeartbeats 4000000 in
theorem c284_X9_personAt (l : Launch) (D : va_G) (T : Nat → ClassId) (sz : Nat) (a0 : Nat) (a1 : Nat) (a2 : Nat) (a3 : Nat) (a4 : Nat) (a5 : Nat) (a6 : Nat) (a7 : Nat) (a8 : Nat) (a9 : Nat) (a10 : Nat) (x0 : Int) (x1 : Int) (x2 : Int) (x3 : Int) (x4 : Int) (x5 : Int) (x6 : Int) (x7 : Int) (x8 : Int) (a11 : Nat) (x9 : Int) (x10 : Int) (x11 : Int) (x12 : Int) (x13 : Int) (o0 : Option Nat) (y0 : Int64) (r0 : Int32) (x14 : Int) (x15 : Int) (x16 : Int) (h0 : Nat → Int64) (f0 : Int → Int) (f1 : Int → Int) (f2 : Int → Int) (f3 : Int → Int) (f4 : Int → Int) (f5 : Int → Int) (h1 : Nat → Int64) (f6 : Int → Int) (f7 : Int → Int) (x0_a : 0 ≤ x0) (x0_b : x0 ≤ 9) (x1_a : 0 ≤ x1) (x1_b : x1 ≤ 3) (x2_a : 0 ≤ x2) (x2_b : x2 ≤ 900) (x3_a : (-2147483648) ≤ x3) (x3_b : x3 ≤ 2147483647) (x4_a : (-2147483648) ≤ x4) (x4_b : x4 ≤ 2147483647) (x5_a : (-2147483648) ≤ x5) (x5_b : x5 ≤ 2147483647) (x6_a : 0 ≤ x6) (x6_b : x6 ≤ 1) (x7_a : 0 ≤ x7) (x7_b : x7 ≤ 1) (x8_a : 0 ≤ x8) (x8_b : x8 ≤ 1) (x9_a : 0 ≤ x9) (x9_b : x9 ≤ 940) (x10_a : 0 ≤ x10) (x10_b : x10 ≤ 940) (x11_a : 0 ≤ x11) (x11_b : x11 ≤ 940) (x12_a : 0 ≤ x12) (x12_b : x12 ≤ 940) (x13_a : 0 ≤ x13) (x13_b : x13 ≤ 5) (o0_h : wok T o0) (x14_a : (-2147483648) ≤ x14) (x14_b : x14 ≤ 2147483647) (x15_a : (-2147483648) ≤ x15) (x15_b : x15 ≤ 2147483647) (x16_a : 0 ≤ x16) (x16_b : x16 ≤ 940) (f0_h : rng (-2147483648) 2147483647 f0) (f1_h : rng (-2147483648) 2147483647 f1) (f2_h : rng (-2147483648) 2147483647 f2) (f3_h : rng 0 511 f3) (f4_h : rng (-1) 8 f4) (f5_h : rng (-1) 8 f5) (f6_h : rng (-2147483648) 2147483647 f6) (f7_h : rng 0 255 f7) : Met l yX9_personAt (Cond.code yX9_personAt cX9_personAt 2 (some .int) :: GW) (Rm 2 0 0) (cPre [.ref a0, .ref a1] D T [(a0, .inr (9, [.ref a2, .ref a3, .ref a4, .ref a5, .ref a6, .ref a7, .ref a8, .ref a9, .ref a10, .int (iI x0), .int (iI x1), .int (iI x2), .int (iI x3), .int (iI x4), .int (iI x5), .int (iI x6), .int (iI x7), .int (iI x8)])), (a1, .inr (8, [.ref a11, .int (iI x9), .int (iI x10), .int (iI x11), .int (iI x12), .int (iI x13), (va_rf o0), .long y0, .int r0, .int (iI x14), .int (iI x15), .int (iI x16)])), (a2, .inl (T 1, 9, .inr (.inl h0))), (a3, .inl (T 0, 9, .inl (cI f0))), (a4, .inl (T 0, 9, .inl (cI f1))), (a5, .inl (T 0, 9, .inl (cI f2))), (a6, .inl (T 0, 9, .inl (cI f3))), (a7, .inl (T 0, 9, .inl (cI f4))), (a8, .inl (T 0, 9, .inl (cI f5))), (a9, .inl (T 1, 3, .inr (.inl h1))), (a10, .inl (T 0, 3, .inl (cI f6))), (a11, .inl (T 0, 940, .inl (cI f7)))] sz) (qI D [(a0, .inr (9, [.ref a2, .ref a3, .ref a4, .ref a5, .ref a6, .ref a7, .ref a8, .ref a9, .ref a10, .int (iI x0), .int (iI x1), .int (iI x2), .int (iI x3), .int (iI x4), .int (iI x5), .int (iI x6), .int (iI x7), .int (iI x8)])), (a1, .inr (8, [.ref a11, .int (iI x9), .int (iI x10), .int (iI x11), .int (iI x12), .int (iI x13), (va_rf o0), .long y0, .int r0, .int (iI x14), .int (iI x15), .int (iI x16)])), (a2, .inl (T 1, 9, .inr (.inl h0))), (a3, .inl (T 0, 9, .inl (cI f0))), (a4, .inl (T 0, 9, .inl (cI f1))), (a5, .inl (T 0, 9, .inl (cI f2))), (a6, .inl (T 0, 9, .inl (cI f3))), (a7, .inl (T 0, 9, .inl (cI f4))), (a8, .inl (T 0, 9, .inl (cI f5))), (a9, .inl (T 1, 3, .inr (.inl h1))), (a10, .inl (T 0, 3, .inl (cI f6))), (a11, .inl (T 0, 940, .inl (cI f7)))] sz (fun (v : Int32) (u : Int × Int × Int) => iI u.1 = v ∧ (-1) ≤ u.1 ∧ u.1 ≤ 8 ∧ (-2147483648) ≤ u.2.1 ∧ u.2.1 ≤ 2147483647 ∧ 0 ≤ u.2.2 ∧ u.2.2 ≤ 940 ∧ 0 ≤ ((x0 - u.1) - 1) ∧ (∀ (x : Tk × Int × Int) (rd : Int → Int) (h : Nat → Int64) (o : Int → Int), gC T x x13 x12 x11 y0 r0 x14 o0 → XW rd h o h0 f0 f1 f2 f3 f4 f5 h1 f6 x0 x1 x3 x4 x5 x6 x7 x8 → XV (sOne rd h x) u.1 u.2.1 u.2.2) ∧ (∀ x : Tk × Int × Int, gC T x x13 x12 x11 y0 r0 x14 o0 → XV ((sNa h0 x0) x) u.1 u.2.1 u.2.2) ∧ (kpF u.1 x15 u.2.1)) (fun u => [(a0, .inr (9, [.ref a2, .ref a3, .ref a4, .ref a5, .ref a6, .ref a7, .ref a8, .ref a9, .ref a10, .int (iI x0), .int (iI x1), .int (iI x2), .int (iI x3), .int (iI x4), .int (iI x5), .int (iI x6), .int (iI x7), .int (iI x8)])), (a1, .inr (8, [.ref a11, .int (iI x9), .int (iI x10), .int (iI x11), .int (iI x12), .int (iI x13), (va_rf o0), .long y0, .int r0, .int (iI x14), .int (iI u.2.1), .int (iI u.2.2)])), (a2, .inl (T 1, 9, .inr (.inl h0))), (a3, .inl (T 0, 9, .inl (cI f0))), (a4, .inl (T 0, 9, .inl (cI f1))), (a5, .inl (T 0, 9, .inl (cI f2))), (a6, .inl (T 0, 9, .inl (cI f3))), (a7, .inl (T 0, 9, .inl (cI f4))), (a8, .inl (T 0, 9, .inl (cI f5))), (a9, .inl (T 1, 3, .inr (.inl h1))), (a10, .inl (T 0, 3, .inl (cI f6))), (a11, .inl (T 0, 940, .inl (cI f7)))])) 0 0 (va_A [(a0, .inr (9, [.ref a2, .ref a3, .ref a4, .ref a5, .ref a6, .ref a7, .ref a8, .ref a9, .ref a10, .int (iI x0), .int (iI x1), .int (iI x2), .int (iI x3), .int (iI x4), .int (iI x5), .int (iI x6), .int (iI x7), .int (iI x8)])), (a1, .inr (8, [.ref a11, .int (iI x9), .int (iI x10), .int (iI x11), .int (iI x12), .int (iI x13), (va_rf o0), .long y0, .int r0, .int (iI x14), .int (iI x15), .int (iI x16)])), (a2, .inl (T 1, 9, .inr (.inl h0))), (a3, .inl (T 0, 9, .inl (cI f0))), (a4, .inl (T 0, 9, .inl (cI f1))), (a5, .inl (T 0, 9, .inl (cI f2))), (a6, .inl (T 0, 9, .inl (cI f3))), (a7, .inl (T 0, 9, .inl (cI f4))), (a8, .inl (T 0, 9, .inl (cI f5))), (a9, .inl (T 1, 3, .inr (.inl h1))), (a10, .inl (T 0, 3, .inl (cI f6))), (a11, .inl (T 0, 940, .inl (cI f7)))] sz) := by
  refine e_I (by decide) (Nat.le_of_ble_eq_true rfl) ?_
  intro p e s m args below meth c A Q ls M hin w ret hl
  have hx := M.1.1
  have hb := M.1.2.1
  have hl : lv_has ls 2 [(0, .ref a0), (1, .ref a1)] := hl
  refine lv_aload_n hx hb dX9_personAt_0 rfl (lv_at hl 0 rfl) ?_
  refine lv_aload_n hx hb dX9_personAt_1 rfl (lv_at hl 1 rfl) ?_
  refine lv_aload_n hx hb dX9_personAt_2 rfl (lv_at hl 0 rfl) ?_
  refine r_get (v := .ref a2) M w 0 0 clX9 rfl (by decide) G366 rfl rfl dX9_personAt_3 ?_
  refine lv_aload_n hx hb dX9_personAt_6 rfl (lv_at hl 0 rfl) ?_
  refine r_get (v := .int (iI x0)) M w 0 9 clX9 rfl (by decide) G387 rfl rfl dX9_personAt_7 ?_
  refine k_I (ce := 0) (sl := 0) (rest := []) (wr := [(a0, .inr (9, [.ref a2, .ref a3, .ref a4, .ref a5, .ref a6, .ref a7, .ref a8, .ref a9, .ref a10, .int (iI x0), .int (iI x1), .int (iI x2), .int (iI x3), .int (iI x4), .int (iI x5), .int (iI x6), .int (iI x7), .int (iI x8)])), (a3, .inl (T 0, 9, .inl (cI f0))), (a4, .inl (T 0, 9, .inl (cI f1))), (a5, .inl (T 0, 9, .inl (cI f2))), (a6, .inl (T 0, 9, .inl (cI f3))), (a7, .inl (T 0, 9, .inl (cI f4))), (a8, .inl (T 0, 9, .inl (cI f5))), (a9, .inl (T 1, 3, .inr (.inl h1))), (a10, .inl (T 0, 3, .inl (cI f6)))]) (r_V (f := 1) [1, 2, 11] M w V_HookedCity_Town_189 G748 G9 (c283_X9_nameAt l D T _ a0 a1 a2 x0 a11 x9 x10 x11 x12 x13 o0 y0 r0 x14 x15 x16 h0 f7 x0_a x0_b x9_a x9_b x10_a x10_b x11_a x11_b x12_a x12_b x13_a x13_b o0_h x14_a x14_b x15_a x15_b x16_a x16_b f7_h) 0 clX9 rfl rfl (by decide) rfl hl.1 rfl (Nat.le_of_ble_eq_true rfl) dX9_personAt_10 (by decide) (by decide) (by decide) (by decide)) w [1, 2, 11] [0, 3, 4, 5, 6, 7, 8, 9, 10] rfl rfl (by decide) (by decide) rfl rfl (fun v u H locs hp w => ?_)
  obtain ⟨z1, z2, z3⟩ := u
  have hv : iI z1 = v := hp.1
  subst hv
  have z1_a : (-1) ≤ z1 := hp.2.1
  have z1_b : z1 ≤ 8 := hp.2.2.1
  have z2_a : (-2147483648) ≤ z2 := hp.2.2.2.1
  have z2_b : z2 ≤ 2147483647 := hp.2.2.2.2.1
  have z3_a : 0 ≤ z3 := hp.2.2.2.2.2.1
  have z3_b : z3 ≤ 940 := hp.2.2.2.2.2.2.1
  have ee4 : 0 ≤ ((x0 - z1) - 1) := hp.2.2.2.2.2.2.2.1
  have pq5 : x0 ≤ 9 → ∀ x : Tk × Int × Int, gC T x x13 x12 x11 y0 r0 x14 o0 → XV (sNa h0 x0 x) z1 z2 z3 := hp.2.2.2.2.2.2.2.2.1
  have pq6 : kpF z1 x15 z2 := hp.2.2.2.2.2.2.2.2.2
  have w : WD D A s.heap [(a0, .inr (9, [.ref a2, .ref a3, .ref a4, .ref a5, .ref a6, .ref a7, .ref a8, .ref a9, .ref a10, .int (iI x0), .int (iI x1), .int (iI x2), .int (iI x3), .int (iI x4), .int (iI x5), .int (iI x6), .int (iI x7), .int (iI x8)])), (a3, .inl (T 0, 9, .inl (cI f0))), (a4, .inl (T 0, 9, .inl (cI f1))), (a5, .inl (T 0, 9, .inl (cI f2))), (a6, .inl (T 0, 9, .inl (cI f3))), (a7, .inl (T 0, 9, .inl (cI f4))), (a8, .inl (T 0, 9, .inl (cI f5))), (a9, .inl (T 1, 3, .inr (.inl h1))), (a10, .inl (T 0, 3, .inl (cI f6))), (a1, .inr (8, [.ref a11, .int (iI x9), .int (iI x10), .int (iI x11), .int (iI x12), .int (iI x13), (va_rf o0), .long y0, .int r0, .int (iI x14), .int (iI z2), .int (iI z3)])), (a2, .inl (T 1, 9, .inr (.inl h0))), (a11, .inl (T 0, 940, .inl (cI f7)))] H locs := w
  exact ret _ (z1, z2, z3) _ _ _ _ _ [0, 9, 10, 1, 2, 3, 4, 5, 6, 7, 8, 11] dX9_personAt_13 ⟨rfl, z1_a, z1_b, z2_a, z2_b, z3_a, z3_b, (show 0 ≤ ((x0 - z1) - 1) from by omega), (show ∀ (x : Tk × Int × Int) (rd : Int → Int) (h : Nat → Int64) (o : Int → Int), gC T x x13 x12 x11 y0 r0 x14 o0 → XW rd h o h0 f0 f1 f2 f3 f4 f5 h1 f6 x0 x1 x3 x4 x5 x6 x7 x8 → XV (sOne rd h x) z1 z2 z3 from (fun x rd h o g w => xw_one w g (pq5 (by omega) x g))), (show ∀ x : Tk × Int × Int, gC T x x13 x12 x11 y0 r0 x14 o0 → XV ((sNa h0 x0) x) z1 z2 z3 from (fun x g => pq5 (by omega) x g)), (show kpF z1 x15 z2 from pq6)⟩ w (by decide) rfl
set_option maxRecDepth 100000 in
set_option maxHeartbeats 4000000 in
theorem c285_X9_readDone (l : Launch) (D : va_G) (T : Nat → ClassId) (sz : Nat) (a0 : Nat) (a1 : Nat) (a2 : Nat) (a3 : Nat) (a4 : Nat) (a5 : Nat) (a6 : Nat) (a7 : Nat) (a8 : Nat) (a9 : Nat) (a10 : Nat) (x0 : Int) (x1 : Int) (x2 : Int) (x3 : Int) (x4 : Int) (x5 : Int) (x6 : Int) (x7 : Int) (x8 : Int) (a11 : Nat) (x9 : Int) (x10 : Int) (x11 : Int) (x12 : Int) (x13 : Int) (o0 : Option Nat) (y0 : Int64) (r0 : Int32) (x14 : Int) (x15 : Int) (x16 : Int) (h0 : Nat → Int64) (f0 : Int → Int) (f1 : Int → Int) (f2 : Int → Int) (f3 : Int → Int) (f4 : Int → Int) (f5 : Int → Int) (h1 : Nat → Int64) (f6 : Int → Int) (f7 : Int → Int) (x0_a : 0 ≤ x0) (x0_b : x0 ≤ 9) (x1_a : 0 ≤ x1) (x1_b : x1 ≤ 3) (x2_a : 0 ≤ x2) (x2_b : x2 ≤ 900) (x3_a : (-2147483648) ≤ x3) (x3_b : x3 ≤ 2147483647) (x4_a : (-2147483648) ≤ x4) (x4_b : x4 ≤ 2147483647) (x5_a : (-2147483648) ≤ x5) (x5_b : x5 ≤ 2147483647) (x6_a : 0 ≤ x6) (x6_b : x6 ≤ 1) (x7_a : 0 ≤ x7) (x7_b : x7 ≤ 1) (x8_a : 0 ≤ x8) (x8_b : x8 ≤ 1) (x9_a : 0 ≤ x9) (x9_b : x9 ≤ 940) (x10_a : 0 ≤ x10) (x10_b : x10 ≤ 940) (x11_a : 0 ≤ x11) (x11_b : x11 ≤ 940) (x12_a : 0 ≤ x12) (x12_b : x12 ≤ 940) (x13_a : 0 ≤ x13) (x13_b : x13 ≤ 5) (o0_h : wok T o0) (x14_a : (-2147483648) ≤ x14) (x14_b : x14 ≤ 2147483647) (x15_a : (-2147483648) ≤ x15) (x15_b : x15 ≤ 2147483647) (x16_a : 0 ≤ x16) (x16_b : x16 ≤ 940) (f0_h : rng (-2147483648) 2147483647 f0) (f1_h : rng (-2147483648) 2147483647 f1) (f2_h : rng (-2147483648) 2147483647 f2) (f3_h : rng 0 511 f3) (f4_h : rng (-1) 8 f4) (f5_h : rng (-1) 8 f5) (f6_h : rng (-2147483648) 2147483647 f6) (f7_h : rng 0 255 f7) : Met l yX9_readDone (Cond.code yX9_readDone cX9_readDone 4 (some .boolean) :: GW) (Rm 5 0 0) (cPre [.ref a0, .ref a1] D T [(a0, .inr (9, [.ref a2, .ref a3, .ref a4, .ref a5, .ref a6, .ref a7, .ref a8, .ref a9, .ref a10, .int (iI x0), .int (iI x1), .int (iI x2), .int (iI x3), .int (iI x4), .int (iI x5), .int (iI x6), .int (iI x7), .int (iI x8)])), (a1, .inr (8, [.ref a11, .int (iI x9), .int (iI x10), .int (iI x11), .int (iI x12), .int (iI x13), (va_rf o0), .long y0, .int r0, .int (iI x14), .int (iI x15), .int (iI x16)])), (a2, .inl (T 1, 9, .inr (.inl h0))), (a3, .inl (T 0, 9, .inl (cI f0))), (a4, .inl (T 0, 9, .inl (cI f1))), (a5, .inl (T 0, 9, .inl (cI f2))), (a6, .inl (T 0, 9, .inl (cI f3))), (a7, .inl (T 0, 9, .inl (cI f4))), (a8, .inl (T 0, 9, .inl (cI f5))), (a9, .inl (T 1, 3, .inr (.inl h1))), (a10, .inl (T 0, 3, .inl (cI f6))), (a11, .inl (T 0, 940, .inl (cI f7)))] sz) (qI D [(a0, .inr (9, [.ref a2, .ref a3, .ref a4, .ref a5, .ref a6, .ref a7, .ref a8, .ref a9, .ref a10, .int (iI x0), .int (iI x1), .int (iI x2), .int (iI x3), .int (iI x4), .int (iI x5), .int (iI x6), .int (iI x7), .int (iI x8)])), (a1, .inr (8, [.ref a11, .int (iI x9), .int (iI x10), .int (iI x11), .int (iI x12), .int (iI x13), (va_rf o0), .long y0, .int r0, .int (iI x14), .int (iI x15), .int (iI x16)])), (a2, .inl (T 1, 9, .inr (.inl h0))), (a3, .inl (T 0, 9, .inl (cI f0))), (a4, .inl (T 0, 9, .inl (cI f1))), (a5, .inl (T 0, 9, .inl (cI f2))), (a6, .inl (T 0, 9, .inl (cI f3))), (a7, .inl (T 0, 9, .inl (cI f4))), (a8, .inl (T 0, 9, .inl (cI f5))), (a9, .inl (T 1, 3, .inr (.inl h1))), (a10, .inl (T 0, 3, .inl (cI f6))), (a11, .inl (T 0, 940, .inl (cI f7)))] sz (fun (v : Int32) (u : Int × Int × Int × Int × Option Nat × Int64 × Int32 × Int × Int × Int × (Int → Int) × (Int → Int)) => iI u.1 = v ∧ 0 ≤ u.1 ∧ u.1 ≤ 1 ∧ 0 ≤ u.2.1 ∧ u.2.1 ≤ 940 ∧ 0 ≤ u.2.2.1 ∧ u.2.2.1 ≤ 940 ∧ 0 ≤ u.2.2.2.1 ∧ u.2.2.2.1 ≤ 5 ∧ wok T u.2.2.2.2.1 ∧ (-2147483648) ≤ u.2.2.2.2.2.2.2.1 ∧ u.2.2.2.2.2.2.2.1 ≤ 2147483647 ∧ (-2147483648) ≤ u.2.2.2.2.2.2.2.2.1 ∧ u.2.2.2.2.2.2.2.2.1 ≤ 2147483647 ∧ 0 ≤ u.2.2.2.2.2.2.2.2.2.1 ∧ u.2.2.2.2.2.2.2.2.2.1 ≤ 940 ∧ rng (-1) 8 u.2.2.2.2.2.2.2.2.2.2.1 ∧ rng (-1) 8 u.2.2.2.2.2.2.2.2.2.2.2 ∧ (∀ (x : Tk × Int × Int) (rd : Int → Int) (h : Nat → Int64) (o : Int → Int), gC T x x13 x12 x11 y0 r0 x14 o0 → XW rd h o h0 f0 f1 f2 f3 f4 f5 h1 f6 x0 x1 x3 x4 x5 x6 x7 x8 → XP (sDone f7 x9 x10 x rd h o) u.1 u.2.2.2.2.2.2.2.2.1 u.2.2.2.2.2.2.2.2.2.1 (fun y => gC T y u.2.2.2.1 u.2.2.1 u.2.1 u.2.2.2.2.2.1 u.2.2.2.2.2.2.1 u.2.2.2.2.2.2.2.1 u.2.2.2.2.1) (fun rd h o => XW rd h o h0 f0 f1 f2 f3 u.2.2.2.2.2.2.2.2.2.2.1 u.2.2.2.2.2.2.2.2.2.2.2 h1 f6 x0 x1 x3 x4 x5 x6 x7 x8)) ∧ (kpB u.1 x15 u.2.2.2.2.2.2.2.2.1)) (fun u => [(a0, .inr (9, [.ref a2, .ref a3, .ref a4, .ref a5, .ref a6, .ref a7, .ref a8, .ref a9, .ref a10, .int (iI x0), .int (iI x1), .int (iI x2), .int (iI x3), .int (iI x4), .int (iI x5), .int (iI x6), .int (iI x7), .int (iI x8)])), (a1, .inr (8, [.ref a11, .int (iI x9), .int (iI x10), .int (iI u.2.1), .int (iI u.2.2.1), .int (iI u.2.2.2.1), (va_rf u.2.2.2.2.1), .long u.2.2.2.2.2.1, .int u.2.2.2.2.2.2.1, .int (iI u.2.2.2.2.2.2.2.1), .int (iI u.2.2.2.2.2.2.2.2.1), .int (iI u.2.2.2.2.2.2.2.2.2.1)])), (a2, .inl (T 1, 9, .inr (.inl h0))), (a3, .inl (T 0, 9, .inl (cI f0))), (a4, .inl (T 0, 9, .inl (cI f1))), (a5, .inl (T 0, 9, .inl (cI f2))), (a6, .inl (T 0, 9, .inl (cI f3))), (a7, .inl (T 0, 9, .inl (cI u.2.2.2.2.2.2.2.2.2.2.1))), (a8, .inl (T 0, 9, .inl (cI u.2.2.2.2.2.2.2.2.2.2.2))), (a9, .inl (T 1, 3, .inr (.inl h1))), (a10, .inl (T 0, 3, .inl (cI f6))), (a11, .inl (T 0, 940, .inl (cI f7)))])) 0 0 (va_A [(a0, .inr (9, [.ref a2, .ref a3, .ref a4, .ref a5, .ref a6, .ref a7, .ref a8, .ref a9, .ref a10, .int (iI x0), .int (iI x1), .int (iI x2), .int (iI x3), .int (iI x4), .int (iI x5), .int (iI x6), .int (iI x7), .int (iI x8)])), (a1, .inr (8, [.ref a11, .int (iI x9), .int (iI x10), .int (iI x11), .int (iI x12), .int (iI x13), (va_rf o0), .long y0, .int r0, .int (iI x14), .int (iI x15), .int (iI x16)])), (a2, .inl (T 1, 9, .inr (.inl h0))), (a3, .inl (T 0, 9, .inl (cI f0))), (a4, .inl (T 0, 9, .inl (cI f1))), (a5, .inl (T 0, 9, .inl (cI f2))), (a6, .inl (T 0, 9, .inl (cI f3))), (a7, .inl (T 0, 9, .inl (cI f4))), (a8, .inl (T 0, 9, .inl (cI f5))), (a9, .inl (T 1, 3, .inr (.inl h1))), (a10, .inl (T 0, 3, .inl (cI f6))), (a11, .inl (T 0, 940, .inl (cI f7)))] sz) := by
  refine e_Z (by decide) (Nat.le_of_ble_eq_true rfl) ?_
  intro p e s m args below meth c A Q ls M hin w ret hl
  have hx := M.1.1
  have hb := M.1.2.1
  have hl : lv_has ls 4 [(0, .ref a0), (1, .ref a1)] := hl
  refine lv_aload_n hx hb dX9_readDone_0 rfl (lv_at hl 1 rfl) ?_
  refine k_V (ce := 0) (sl := 0) (rest := []) (wr := [(a0, .inr (9, [.ref a2, .ref a3, .ref a4, .ref a5, .ref a6, .ref a7, .ref a8, .ref a9, .ref a10, .int (iI x0), .int (iI x1), .int (iI x2), .int (iI x3), .int (iI x4), .int (iI x5), .int (iI x6), .int (iI x7), .int (iI x8)])), (a2, .inl (T 1, 9, .inr (.inl h0))), (a3, .inl (T 0, 9, .inl (cI f0))), (a4, .inl (T 0, 9, .inl (cI f1))), (a5, .inl (T 0, 9, .inl (cI f2))), (a6, .inl (T 0, 9, .inl (cI f3))), (a7, .inl (T 0, 9, .inl (cI f4))), (a8, .inl (T 0, 9, .inl (cI f5))), (a9, .inl (T 1, 3, .inr (.inl h1))), (a10, .inl (T 0, 3, .inl (cI f6)))]) (r_V (f := 4) [1, 11] M w V_HookedCity_Town_154 G587 G588 (c266_X8_step l D T _ a1 a11 x9 x10 x11 x12 x13 o0 y0 r0 x14 x15 x16 f7 x9_a x9_b x10_a x10_b x11_a x11_b x12_a x12_b x13_a x13_b o0_h x14_a x14_b x15_a x15_b x16_a x16_b f7_h) 1 clX8 rfl rfl (by decide) rfl hl.1 rfl (Nat.le_of_ble_eq_true rfl) dX9_readDone_1 (by decide) (by decide) (by decide) (by decide)) w [1, 11] [0, 2, 3, 4, 5, 6, 7, 8, 9, 10] rfl rfl (by decide) (by decide) rfl rfl (fun u H locs hp w => ?_)
  obtain ⟨z1, z2, z3, fo4, fy5, fr6, z7⟩ := u
  have z1_a : 0 ≤ z1 := hp.1
  have z1_b : z1 ≤ 940 := hp.2.1
  have z2_a : 0 ≤ z2 := hp.2.2.1
  have z2_b : z2 ≤ 940 := hp.2.2.2.1
  have z3_a : 0 ≤ z3 := hp.2.2.2.2.1
  have z3_b : z3 ≤ 5 := hp.2.2.2.2.2.1
  have fo4_h : wok T fo4 := hp.2.2.2.2.2.2.1
  have z7_a : (-2147483648) ≤ z7 := hp.2.2.2.2.2.2.2.1
  have z7_b : z7 ≤ 2147483647 := hp.2.2.2.2.2.2.2.2.1
  have pq8 : gC T (tkAt f7 x9 x10 x11) z3 z2 z1 fy5 fr6 z7 fo4 := hp.2.2.2.2.2.2.2.2.2
  have w : WD D A s.heap [(a0, .inr (9, [.ref a2, .ref a3, .ref a4, .ref a5, .ref a6, .ref a7, .ref a8, .ref a9, .ref a10, .int (iI x0), .int (iI x1), .int (iI x2), .int (iI x3), .int (iI x4), .int (iI x5), .int (iI x6), .int (iI x7), .int (iI x8)])), (a2, .inl (T 1, 9, .inr (.inl h0))), (a3, .inl (T 0, 9, .inl (cI f0))), (a4, .inl (T 0, 9, .inl (cI f1))), (a5, .inl (T 0, 9, .inl (cI f2))), (a6, .inl (T 0, 9, .inl (cI f3))), (a7, .inl (T 0, 9, .inl (cI f4))), (a8, .inl (T 0, 9, .inl (cI f5))), (a9, .inl (T 1, 3, .inr (.inl h1))), (a10, .inl (T 0, 3, .inl (cI f6))), (a1, .inr (8, [.ref a11, .int (iI x9), .int (iI x10), .int (iI z1), .int (iI z2), .int (iI z3), (va_rf fo4), .long fy5, .int fr6, .int (iI z7), .int (iI x15), .int (iI x16)])), (a11, .inl (T 0, 940, .inl (cI f7)))] H locs := w
  refine lv_aload_n hx hb dX9_readDone_4 rfl (lv_at hl 0 rfl) ?_
  refine lv_aload_n hx hb dX9_readDone_5 rfl (lv_at hl 1 rfl) ?_
  refine k_I (ce := 0) (sl := 0) (rest := []) (wr := []) (r_V (f := 2) [0, 10, 1, 2, 3, 4, 5, 6, 7, 8, 9, 11] M w V_HookedCity_Town_172 G743 G744 (c284_X9_personAt l D T _ a0 a1 a2 a3 a4 a5 a6 a7 a8 a9 a10 x0 x1 x2 x3 x4 x5 x6 x7 x8 a11 x9 x10 z1 z2 z3 fo4 fy5 fr6 z7 x15 x16 h0 f0 f1 f2 f3 f4 f5 h1 f6 f7 x0_a x0_b x1_a x1_b x2_a x2_b x3_a x3_b x4_a x4_b x5_a x5_b x6_a x6_b x7_a x7_b x8_a x8_b x9_a x9_b x10_a x10_b z1_a z1_b z2_a z2_b z3_a z3_b fo4_h z7_a z7_b x15_a x15_b x16_a x16_b f0_h f1_h f2_h f3_h f4_h f5_h f6_h f7_h) 0 clX9 rfl rfl (by decide) rfl hl.1 rfl (Nat.le_of_ble_eq_true rfl) dX9_readDone_6 (by decide) (by decide) (by decide) (by decide)) w [0, 10, 1, 2, 3, 4, 5, 6, 7, 8, 9, 11] [] rfl rfl (by decide) (by decide) rfl rfl (fun v u H locs hp w => ?_)
  obtain ⟨z9, z10, z11⟩ := u
  have hv : iI z9 = v := hp.1
  subst hv
  have z9_a : (-1) ≤ z9 := hp.2.1
  have z9_b : z9 ≤ 8 := hp.2.2.1
  have z10_a : (-2147483648) ≤ z10 := hp.2.2.2.1
  have z10_b : z10 ≤ 2147483647 := hp.2.2.2.2.1
  have z11_a : 0 ≤ z11 := hp.2.2.2.2.2.1
  have z11_b : z11 ≤ 940 := hp.2.2.2.2.2.2.1
  have ee12 : 0 ≤ ((x0 - z9) - 1) := hp.2.2.2.2.2.2.2.1
  have pq13 : ∀ (x : Tk × Int × Int) (rd : Int → Int) (h : Nat → Int64) (o : Int → Int), gC T x z3 z2 z1 fy5 fr6 z7 fo4 → XW rd h o h0 f0 f1 f2 f3 f4 f5 h1 f6 x0 x1 x3 x4 x5 x6 x7 x8 → XV (sOne rd h x) z9 z10 z11 := hp.2.2.2.2.2.2.2.2.1
  have pq14 : ∀ x : Tk × Int × Int, gC T x z3 z2 z1 fy5 fr6 z7 fo4 → XV ((sNa h0 x0) x) z9 z10 z11 := hp.2.2.2.2.2.2.2.2.2.1
  have pq15 : kpF z9 x15 z10 := hp.2.2.2.2.2.2.2.2.2.2
  have w : WD D A s.heap [(a0, .inr (9, [.ref a2, .ref a3, .ref a4, .ref a5, .ref a6, .ref a7, .ref a8, .ref a9, .ref a10, .int (iI x0), .int (iI x1), .int (iI x2), .int (iI x3), .int (iI x4), .int (iI x5), .int (iI x6), .int (iI x7), .int (iI x8)])), (a1, .inr (8, [.ref a11, .int (iI x9), .int (iI x10), .int (iI z1), .int (iI z2), .int (iI z3), (va_rf fo4), .long fy5, .int fr6, .int (iI z7), .int (iI z10), .int (iI z11)])), (a2, .inl (T 1, 9, .inr (.inl h0))), (a3, .inl (T 0, 9, .inl (cI f0))), (a4, .inl (T 0, 9, .inl (cI f1))), (a5, .inl (T 0, 9, .inl (cI f2))), (a6, .inl (T 0, 9, .inl (cI f3))), (a7, .inl (T 0, 9, .inl (cI f4))), (a8, .inl (T 0, 9, .inl (cI f5))), (a9, .inl (T 1, 3, .inr (.inl h1))), (a10, .inl (T 0, 3, .inl (cI f6))), (a11, .inl (T 0, 940, .inl (cI f7)))] H locs := w
  refine lv_istore_n (lv' := [(2, .int (iI z9)), (0, .ref a0), (1, .ref a1)]) hx hb dX9_readDone_9 rfl hl (by decide) rfl (fun ls hl => ?_)
  refine lv_iload_n hx hb dX9_readDone_10 rfl (lv_at hl 0 rfl) ?_
  refine lv_iconst (v := iI (-1)) hx hb dX9_readDone_11 (by decide +kernel) ?_
  refine lv_icmp_ne (tgt := 17) hx hb dX9_readDone_12 (by decide) (fun c_16 => ?_) (fun c_16 => ?_)
  · replace c_16 : ¬ z9 = (-1) := fun h => c_16 ((iI_eq (Int.le_trans (by decide) z9_a) (Int.le_trans z9_b (by decide)) (by decide) (by decide)).mpr h)
    refine lv_aload_n hx hb dX9_readDone_17 rfl (lv_at hl 1 rfl) ?_
    refine r_get (v := .ref a7) M w 0 5 clX9 rfl (by decide) G379 rfl rfl dX9_readDone_18 ?_
    refine lv_iload_n hx hb dX9_readDone_21 rfl (lv_at hl 0 rfl) ?_
    refine r_iald (v := iI (f4 z9)) M w 7 rfl (iI_in (by omega) (by omega) (by decide)) (cI_at (by omega) (by omega)) dX9_readDone_22 ?_
    have hh17 : (-1) ≤ (f4 z9) ∧ (f4 z9) ≤ 8 := f4_h z9
    refine lv_iconst (v := iI (-1)) hx hb dX9_readDone_23 (by decide +kernel) ?_
    refine lv_icmp_eq (tgt := 33) hx hb dX9_readDone_24 (by decide) (fun c_18 => ?_) (fun c_18 => ?_)
    · replace c_18 := (iI_eq (by omega) (by omega) (by decide) (by decide)).mp c_18
      refine lv_aload_n hx hb dX9_readDone_33 rfl (lv_at hl 2 rfl) ?_
      refine k_V (ce := 0) (sl := 0) (rest := []) (wr := [(a0, .inr (9, [.ref a2, .ref a3, .ref a4, .ref a5, .ref a6, .ref a7, .ref a8, .ref a9, .ref a10, .int (iI x0), .int (iI x1), .int (iI x2), .int (iI x3), .int (iI x4), .int (iI x5), .int (iI x6), .int (iI x7), .int (iI x8)])), (a2, .inl (T 1, 9, .inr (.inl h0))), (a3, .inl (T 0, 9, .inl (cI f0))), (a4, .inl (T 0, 9, .inl (cI f1))), (a5, .inl (T 0, 9, .inl (cI f2))), (a6, .inl (T 0, 9, .inl (cI f3))), (a7, .inl (T 0, 9, .inl (cI f4))), (a8, .inl (T 0, 9, .inl (cI f5))), (a9, .inl (T 1, 3, .inr (.inl h1))), (a10, .inl (T 0, 3, .inl (cI f6)))]) (r_V (f := 4) [1, 11] M w V_HookedCity_Town_154 G587 G588 (c266_X8_step l D T _ a1 a11 x9 x10 z1 z2 z3 fo4 fy5 fr6 z7 z10 z11 f7 x9_a x9_b x10_a x10_b z1_a z1_b z2_a z2_b z3_a z3_b fo4_h z7_a z7_b z10_a z10_b z11_a z11_b f7_h) 1 clX8 rfl rfl (by decide) rfl hl.1 rfl (Nat.le_of_ble_eq_true rfl) dX9_readDone_34 (by decide) (by decide) (by decide) (by decide)) w [1, 11] [0, 2, 3, 4, 5, 6, 7, 8, 9, 10] rfl rfl (by decide) (by decide) rfl rfl (fun u H locs hp w => ?_)
      obtain ⟨z19, z20, z21, fo22, fy23, fr24, z25⟩ := u
      have z19_a : 0 ≤ z19 := hp.1
      have z19_b : z19 ≤ 940 := hp.2.1
      have z20_a : 0 ≤ z20 := hp.2.2.1
      have z20_b : z20 ≤ 940 := hp.2.2.2.1
      have z21_a : 0 ≤ z21 := hp.2.2.2.2.1
      have z21_b : z21 ≤ 5 := hp.2.2.2.2.2.1
      have fo22_h : wok T fo22 := hp.2.2.2.2.2.2.1
      have z25_a : (-2147483648) ≤ z25 := hp.2.2.2.2.2.2.2.1
      have z25_b : z25 ≤ 2147483647 := hp.2.2.2.2.2.2.2.2.1
      have pq26 : gC T (tkAt f7 x9 x10 z1) z21 z20 z19 fy23 fr24 z25 fo22 := hp.2.2.2.2.2.2.2.2.2
      have w : WD D A s.heap [(a0, .inr (9, [.ref a2, .ref a3, .ref a4, .ref a5, .ref a6, .ref a7, .ref a8, .ref a9, .ref a10, .int (iI x0), .int (iI x1), .int (iI x2), .int (iI x3), .int (iI x4), .int (iI x5), .int (iI x6), .int (iI x7), .int (iI x8)])), (a2, .inl (T 1, 9, .inr (.inl h0))), (a3, .inl (T 0, 9, .inl (cI f0))), (a4, .inl (T 0, 9, .inl (cI f1))), (a5, .inl (T 0, 9, .inl (cI f2))), (a6, .inl (T 0, 9, .inl (cI f3))), (a7, .inl (T 0, 9, .inl (cI f4))), (a8, .inl (T 0, 9, .inl (cI f5))), (a9, .inl (T 1, 3, .inr (.inl h1))), (a10, .inl (T 0, 3, .inl (cI f6))), (a1, .inr (8, [.ref a11, .int (iI x9), .int (iI x10), .int (iI z19), .int (iI z20), .int (iI z21), (va_rf fo22), .long fy23, .int fr24, .int (iI z25), .int (iI z10), .int (iI z11)])), (a11, .inl (T 0, 940, .inl (cI f7)))] H locs := w
      refine lv_aload_n hx hb dX9_readDone_37 rfl (lv_at hl 1 rfl) ?_
      refine lv_aload_n hx hb dX9_readDone_38 rfl (lv_at hl 2 rfl) ?_
      refine k_I (ce := 0) (sl := 0) (rest := []) (wr := []) (r_V (f := 2) [0, 10, 1, 2, 3, 4, 5, 6, 7, 8, 9, 11] M w V_HookedCity_Town_172 G743 G744 (c284_X9_personAt l D T _ a0 a1 a2 a3 a4 a5 a6 a7 a8 a9 a10 x0 x1 x2 x3 x4 x5 x6 x7 x8 a11 x9 x10 z19 z20 z21 fo22 fy23 fr24 z25 z10 z11 h0 f0 f1 f2 f3 f4 f5 h1 f6 f7 x0_a x0_b x1_a x1_b x2_a x2_b x3_a x3_b x4_a x4_b x5_a x5_b x6_a x6_b x7_a x7_b x8_a x8_b x9_a x9_b x10_a x10_b z19_a z19_b z20_a z20_b z21_a z21_b fo22_h z25_a z25_b z10_a z10_b z11_a z11_b f0_h f1_h f2_h f3_h f4_h f5_h f6_h f7_h) 0 clX9 rfl rfl (by decide) rfl hl.1 rfl (Nat.le_of_ble_eq_true rfl) dX9_readDone_39 (by decide) (by decide) (by decide) (by decide)) w [0, 10, 1, 2, 3, 4, 5, 6, 7, 8, 9, 11] [] rfl rfl (by decide) (by decide) rfl rfl (fun v u H locs hp w => ?_)
      obtain ⟨z27, z28, z29⟩ := u
      have hv : iI z27 = v := hp.1
      subst hv
      have z27_a : (-1) ≤ z27 := hp.2.1
      have z27_b : z27 ≤ 8 := hp.2.2.1
      have z28_a : (-2147483648) ≤ z28 := hp.2.2.2.1
      have z28_b : z28 ≤ 2147483647 := hp.2.2.2.2.1
      have z29_a : 0 ≤ z29 := hp.2.2.2.2.2.1
      have z29_b : z29 ≤ 940 := hp.2.2.2.2.2.2.1
      have ee30 : 0 ≤ ((x0 - z27) - 1) := hp.2.2.2.2.2.2.2.1
      have pq31 : ∀ (x : Tk × Int × Int) (rd : Int → Int) (h : Nat → Int64) (o : Int → Int), gC T x z21 z20 z19 fy23 fr24 z25 fo22 → XW rd h o h0 f0 f1 f2 f3 f4 f5 h1 f6 x0 x1 x3 x4 x5 x6 x7 x8 → XV (sOne rd h x) z27 z28 z29 := hp.2.2.2.2.2.2.2.2.1
      have pq32 : ∀ x : Tk × Int × Int, gC T x z21 z20 z19 fy23 fr24 z25 fo22 → XV ((sNa h0 x0) x) z27 z28 z29 := hp.2.2.2.2.2.2.2.2.2.1
      have pq33 : kpF z27 z10 z28 := hp.2.2.2.2.2.2.2.2.2.2
      have w : WD D A s.heap [(a0, .inr (9, [.ref a2, .ref a3, .ref a4, .ref a5, .ref a6, .ref a7, .ref a8, .ref a9, .ref a10, .int (iI x0), .int (iI x1), .int (iI x2), .int (iI x3), .int (iI x4), .int (iI x5), .int (iI x6), .int (iI x7), .int (iI x8)])), (a1, .inr (8, [.ref a11, .int (iI x9), .int (iI x10), .int (iI z19), .int (iI z20), .int (iI z21), (va_rf fo22), .long fy23, .int fr24, .int (iI z25), .int (iI z28), .int (iI z29)])), (a2, .inl (T 1, 9, .inr (.inl h0))), (a3, .inl (T 0, 9, .inl (cI f0))), (a4, .inl (T 0, 9, .inl (cI f1))), (a5, .inl (T 0, 9, .inl (cI f2))), (a6, .inl (T 0, 9, .inl (cI f3))), (a7, .inl (T 0, 9, .inl (cI f4))), (a8, .inl (T 0, 9, .inl (cI f5))), (a9, .inl (T 1, 3, .inr (.inl h1))), (a10, .inl (T 0, 3, .inl (cI f6))), (a11, .inl (T 0, 940, .inl (cI f7)))] H locs := w
      refine lv_istore_n (lv' := [(3, .int (iI z27)), (2, .int (iI z9)), (0, .ref a0), (1, .ref a1)]) hx hb dX9_readDone_42 rfl hl (by decide) rfl (fun ls hl => ?_)
      refine lv_iload_n hx hb dX9_readDone_43 rfl (lv_at hl 0 rfl) ?_
      refine lv_iconst (v := iI (-1)) hx hb dX9_readDone_44 (by decide +kernel) ?_
      refine lv_icmp_ne (tgt := 50) hx hb dX9_readDone_45 (by decide) (fun c_34 => ?_) (fun c_34 => ?_)
      · replace c_34 : ¬ z27 = (-1) := fun h => c_34 ((iI_eq (Int.le_trans (by decide) z27_a) (Int.le_trans z27_b (by decide)) (by decide) (by decide)).mpr h)
        refine lv_iload_n hx hb dX9_readDone_50 rfl (lv_at hl 1 rfl) ?_
        refine lv_iload_n hx hb dX9_readDone_51 rfl (lv_at hl 0 rfl) ?_
        refine lv_icmp_eq (tgt := 80) hx hb dX9_readDone_52 (by decide) (fun c_35 => ?_) (fun c_35 => ?_)
        · replace c_35 := (iI_eq (Int.le_trans (by decide) z9_a) (Int.le_trans z9_b (by decide)) (Int.le_trans (by decide) z27_a) (Int.le_trans z27_b (by decide))).mp c_35
          refine lv_aload_n hx hb dX9_readDone_80 rfl (lv_at hl 3 rfl) ?_
          refine lv_iconst (v := iI 3) hx hb dX9_readDone_81 (by decide +kernel) ?_
          refine k_I (ce := 0) (sl := 0) (rest := []) (wr := [(a0, .inr (9, [.ref a2, .ref a3, .ref a4, .ref a5, .ref a6, .ref a7, .ref a8, .ref a9, .ref a10, .int (iI x0), .int (iI x1), .int (iI x2), .int (iI x3), .int (iI x4), .int (iI x5), .int (iI x6), .int (iI x7), .int (iI x8)])), (a2, .inl (T 1, 9, .inr (.inl h0))), (a3, .inl (T 0, 9, .inl (cI f0))), (a4, .inl (T 0, 9, .inl (cI f1))), (a5, .inl (T 0, 9, .inl (cI f2))), (a6, .inl (T 0, 9, .inl (cI f3))), (a7, .inl (T 0, 9, .inl (cI f4))), (a8, .inl (T 0, 9, .inl (cI f5))), (a9, .inl (T 1, 3, .inr (.inl h1))), (a10, .inl (T 0, 3, .inl (cI f6))), (a11, .inl (T 0, 940, .inl (cI f7)))]) (r_V (f := 0) [1] M w V_HookedCity_Town_150 G710 G711 (c271_X8_fail l D T _ a1 3 a11 x9 x10 z19 z20 z21 fo22 fy23 fr24 z25 z28 z29 (by decide) (by decide) x9_a x9_b x10_a x10_b z19_a z19_b z20_a z20_b z21_a z21_b fo22_h z25_a z25_b z28_a z28_b z29_a z29_b) 1 clX8 rfl rfl (by decide) rfl hl.1 rfl (Nat.le_of_ble_eq_true rfl) dX9_readDone_82 (by decide) (by decide) (by decide) (by decide)) w [1] [0, 2, 3, 4, 5, 6, 7, 8, 9, 10, 11] rfl rfl (by decide) (by decide) rfl rfl (fun v u H locs hp w => ?_)
          obtain ⟨z36, z37, z38⟩ := u
          have hv : iI z36 = v := hp.1
          subst hv
          have z36_a : 0 ≤ z36 := hp.2.1
          have z36_b : z36 ≤ 1 := hp.2.2.1
          have z37_a : (-2147483648) ≤ z37 := hp.2.2.2.1
          have z37_b : z37 ≤ 2147483647 := hp.2.2.2.2.1
          have z38_a : 0 ≤ z38 := hp.2.2.2.2.2.1
          have z38_b : z38 ≤ 940 := hp.2.2.2.2.2.2.1
          have pq39 : z37 = 3 := hp.2.2.2.2.2.2.2.1
          have pq40 : z38 = z20 := hp.2.2.2.2.2.2.2.2.1
          have w : WD D A s.heap [(a0, .inr (9, [.ref a2, .ref a3, .ref a4, .ref a5, .ref a6, .ref a7, .ref a8, .ref a9, .ref a10, .int (iI x0), .int (iI x1), .int (iI x2), .int (iI x3), .int (iI x4), .int (iI x5), .int (iI x6), .int (iI x7), .int (iI x8)])), (a2, .inl (T 1, 9, .inr (.inl h0))), (a3, .inl (T 0, 9, .inl (cI f0))), (a4, .inl (T 0, 9, .inl (cI f1))), (a5, .inl (T 0, 9, .inl (cI f2))), (a6, .inl (T 0, 9, .inl (cI f3))), (a7, .inl (T 0, 9, .inl (cI f4))), (a8, .inl (T 0, 9, .inl (cI f5))), (a9, .inl (T 1, 3, .inr (.inl h1))), (a10, .inl (T 0, 3, .inl (cI f6))), (a11, .inl (T 0, 940, .inl (cI f7))), (a1, .inr (8, [.ref a11, .int (iI x9), .int (iI x10), .int (iI z19), .int (iI z20), .int (iI z21), (va_rf fo22), .long fy23, .int fr24, .int (iI z25), .int (iI z37), .int (iI z38)]))] H locs := w
          rcases hp.2.2.2.2.2.2.2.2.2 with hr
          · subst hr
            exact ret _ (0, z19, z20, z21, fo22, fy23, fr24, z25, z37, z38, f4, f5) _ _ _ _ _ [0, 11, 1, 2, 3, 4, 5, 6, 7, 8, 9, 10] dX9_readDone_85 (by decide +kernel) ⟨rfl, (show (0 : Int) ≤ 0 from by decide), (show (0 : Int) ≤ 1 from by decide), z19_a, z19_b, z20_a, z20_b, z21_a, z21_b, fo22_h, z25_a, z25_b, z37_a, z37_b, z38_a, z38_b, f4_h, f5_h, (show ∀ (x : Tk × Int × Int) (rd : Int → Int) (h : Nat → Int64) (o : Int → Int), gC T x x13 x12 x11 y0 r0 x14 o0 → XW rd h o h0 f0 f1 f2 f3 f4 f5 h1 f6 x0 x1 x3 x4 x5 x6 x7 x8 → XP (sDone f7 x9 x10 x rd h o) 0 z37 z38 (fun y => gC T y z21 z20 z19 fy23 fr24 z25 fo22) (fun rd h o => XW rd h o h0 f0 f1 f2 f3 f4 f5 h1 f6 x0 x1 x3 x4 x5 x6 x7 x8) from (by intro x rd h o hx hw; have hw1 := hw.1; rw [sDone]; have g1 := gC_nx hx pq8; have c1 := pq13 _ rd h o g1 hw; refine bxV_ok c1 (by omega) ?_; have v1 := (XV_nn c1 (by omega)).2; have s1 := (hw.2.2.2.1 z9 (by omega) (by omega)).2; rw [if_neg (by omega)]; have g2 := gC_nx g1 pq26; have c2 := pq31 _ rd h o g2 hw; refine bxV_ok c2 (by omega) ?_; have v2 := (XV_nn c2 (by omega)).2; have l2 := (hw.2.1 z27 (by omega) (by omega)).2.1; have l1 := (hw.2.1 z9 (by omega) (by omega)).2.2.1; rw [if_pos (done_bad hw (by omega) (by omega) (f5_h z27).1 (f5_h z27).2 (by omega))]; exact ⟨rfl, by omega, pq40.trans g2.1⟩)), (show kpB 0 x15 z37 from (fun e => absurd e (by decide)))⟩ w (by decide) rfl
        · replace c_35 : ¬ z9 = z27 := fun h => c_35 ((iI_eq (Int.le_trans (by decide) z9_a) (Int.le_trans z9_b (by decide)) (Int.le_trans (by decide) z27_a) (Int.le_trans z27_b (by decide))).mpr h)
          refine lv_aload_n hx hb dX9_readDone_55 rfl (lv_at hl 2 rfl) ?_
          refine r_get (v := .ref a4) M w 0 2 clX9 rfl (by decide) G370 rfl rfl dX9_readDone_56 ?_
          refine lv_iload_n hx hb dX9_readDone_59 rfl (lv_at hl 1 rfl) ?_
          refine r_iald (v := iI (f1 z9)) M w 4 rfl (iI_in (by omega) (by omega) (by decide)) (cI_at (by omega) (by omega)) dX9_readDone_60 ?_
          have hh41 : (-2147483648) ≤ (f1 z9) ∧ (f1 z9) ≤ 2147483647 := f1_h z9
          refine lv_aload_n hx hb dX9_readDone_61 rfl (lv_at hl 2 rfl) ?_
          refine r_get (v := .ref a3) M w 0 1 clX9 rfl (by decide) G368 rfl rfl dX9_readDone_62 ?_
          refine lv_iload_n hx hb dX9_readDone_65 rfl (lv_at hl 0 rfl) ?_
          refine r_iald (v := iI (f0 z27)) M w 3 rfl (iI_in (by omega) (by omega) (by decide)) (cI_at (by omega) (by omega)) dX9_readDone_66 ?_
          have hh42 : (-2147483648) ≤ (f0 z27) ∧ (f0 z27) ≤ 2147483647 := f0_h z27
          refine lv_icmp_ne (tgt := 80) hx hb dX9_readDone_67 (by decide) (fun c_43 => ?_) (fun c_43 => ?_)
          · replace c_43 : ¬ (f1 z9) = (f0 z27) := fun h => c_43 ((iI_eq (by omega) (by omega) (by omega) (by omega)).mpr h)
            refine lv_aload_n hx hb dX9_readDone_80 rfl (lv_at hl 3 rfl) ?_
            refine lv_iconst (v := iI 3) hx hb dX9_readDone_81 (by decide +kernel) ?_
            refine k_I (ce := 0) (sl := 0) (rest := []) (wr := [(a0, .inr (9, [.ref a2, .ref a3, .ref a4, .ref a5, .ref a6, .ref a7, .ref a8, .ref a9, .ref a10, .int (iI x0), .int (iI x1), .int (iI x2), .int (iI x3), .int (iI x4), .int (iI x5), .int (iI x6), .int (iI x7), .int (iI x8)])), (a2, .inl (T 1, 9, .inr (.inl h0))), (a3, .inl (T 0, 9, .inl (cI f0))), (a4, .inl (T 0, 9, .inl (cI f1))), (a5, .inl (T 0, 9, .inl (cI f2))), (a6, .inl (T 0, 9, .inl (cI f3))), (a7, .inl (T 0, 9, .inl (cI f4))), (a8, .inl (T 0, 9, .inl (cI f5))), (a9, .inl (T 1, 3, .inr (.inl h1))), (a10, .inl (T 0, 3, .inl (cI f6))), (a11, .inl (T 0, 940, .inl (cI f7)))]) (r_V (f := 0) [1] M w V_HookedCity_Town_150 G710 G711 (c271_X8_fail l D T _ a1 3 a11 x9 x10 z19 z20 z21 fo22 fy23 fr24 z25 z28 z29 (by decide) (by decide) x9_a x9_b x10_a x10_b z19_a z19_b z20_a z20_b z21_a z21_b fo22_h z25_a z25_b z28_a z28_b z29_a z29_b) 1 clX8 rfl rfl (by decide) rfl hl.1 rfl (Nat.le_of_ble_eq_true rfl) dX9_readDone_82 (by decide) (by decide) (by decide) (by decide)) w [1] [0, 2, 3, 4, 5, 6, 7, 8, 9, 10, 11] rfl rfl (by decide) (by decide) rfl rfl (fun v u H locs hp w => ?_)
            obtain ⟨z44, z45, z46⟩ := u
            have hv : iI z44 = v := hp.1
            subst hv
            have z44_a : 0 ≤ z44 := hp.2.1
            have z44_b : z44 ≤ 1 := hp.2.2.1
            have z45_a : (-2147483648) ≤ z45 := hp.2.2.2.1
            have z45_b : z45 ≤ 2147483647 := hp.2.2.2.2.1
            have z46_a : 0 ≤ z46 := hp.2.2.2.2.2.1
            have z46_b : z46 ≤ 940 := hp.2.2.2.2.2.2.1
            have pq47 : z45 = 3 := hp.2.2.2.2.2.2.2.1
            have pq48 : z46 = z20 := hp.2.2.2.2.2.2.2.2.1
            have w : WD D A s.heap [(a0, .inr (9, [.ref a2, .ref a3, .ref a4, .ref a5, .ref a6, .ref a7, .ref a8, .ref a9, .ref a10, .int (iI x0), .int (iI x1), .int (iI x2), .int (iI x3), .int (iI x4), .int (iI x5), .int (iI x6), .int (iI x7), .int (iI x8)])), (a2, .inl (T 1, 9, .inr (.inl h0))), (a3, .inl (T 0, 9, .inl (cI f0))), (a4, .inl (T 0, 9, .inl (cI f1))), (a5, .inl (T 0, 9, .inl (cI f2))), (a6, .inl (T 0, 9, .inl (cI f3))), (a7, .inl (T 0, 9, .inl (cI f4))), (a8, .inl (T 0, 9, .inl (cI f5))), (a9, .inl (T 1, 3, .inr (.inl h1))), (a10, .inl (T 0, 3, .inl (cI f6))), (a11, .inl (T 0, 940, .inl (cI f7))), (a1, .inr (8, [.ref a11, .int (iI x9), .int (iI x10), .int (iI z19), .int (iI z20), .int (iI z21), (va_rf fo22), .long fy23, .int fr24, .int (iI z25), .int (iI z45), .int (iI z46)]))] H locs := w
            rcases hp.2.2.2.2.2.2.2.2.2 with hr
            · subst hr
              exact ret _ (0, z19, z20, z21, fo22, fy23, fr24, z25, z45, z46, f4, f5) _ _ _ _ _ [0, 11, 1, 2, 3, 4, 5, 6, 7, 8, 9, 10] dX9_readDone_85 (by decide +kernel) ⟨rfl, (show (0 : Int) ≤ 0 from by decide), (show (0 : Int) ≤ 1 from by decide), z19_a, z19_b, z20_a, z20_b, z21_a, z21_b, fo22_h, z25_a, z25_b, z45_a, z45_b, z46_a, z46_b, f4_h, f5_h, (show ∀ (x : Tk × Int × Int) (rd : Int → Int) (h : Nat → Int64) (o : Int → Int), gC T x x13 x12 x11 y0 r0 x14 o0 → XW rd h o h0 f0 f1 f2 f3 f4 f5 h1 f6 x0 x1 x3 x4 x5 x6 x7 x8 → XP (sDone f7 x9 x10 x rd h o) 0 z45 z46 (fun y => gC T y z21 z20 z19 fy23 fr24 z25 fo22) (fun rd h o => XW rd h o h0 f0 f1 f2 f3 f4 f5 h1 f6 x0 x1 x3 x4 x5 x6 x7 x8) from (by intro x rd h o hx hw; have hw1 := hw.1; rw [sDone]; have g1 := gC_nx hx pq8; have c1 := pq13 _ rd h o g1 hw; refine bxV_ok c1 (by omega) ?_; have v1 := (XV_nn c1 (by omega)).2; have s1 := (hw.2.2.2.1 z9 (by omega) (by omega)).2; rw [if_neg (by omega)]; have g2 := gC_nx g1 pq26; have c2 := pq31 _ rd h o g2 hw; refine bxV_ok c2 (by omega) ?_; have v2 := (XV_nn c2 (by omega)).2; have l2 := (hw.2.1 z27 (by omega) (by omega)).2.1; have l1 := (hw.2.1 z9 (by omega) (by omega)).2.2.1; rw [if_pos (done_bad hw (by omega) (by omega) (f5_h z27).1 (f5_h z27).2 (by omega))]; exact ⟨rfl, by omega, pq48.trans g2.1⟩)), (show kpB 0 x15 z45 from (fun e => absurd e (by decide)))⟩ w (by decide) rfl
          · replace c_43 := (iI_eq (by omega) (by omega) (by omega) (by omega)).mp c_43
            refine lv_aload_n hx hb dX9_readDone_70 rfl (lv_at hl 2 rfl) ?_
            refine r_get (v := .ref a8) M w 0 6 clX9 rfl (by decide) G381 rfl rfl dX9_readDone_71 ?_
            refine lv_iload_n hx hb dX9_readDone_74 rfl (lv_at hl 0 rfl) ?_
            refine r_iald (v := iI (f5 z27)) M w 8 rfl (iI_in (by omega) (by omega) (by decide)) (cI_at (by omega) (by omega)) dX9_readDone_75 ?_
            have hh49 : (-1) ≤ (f5 z27) ∧ (f5 z27) ≤ 8 := f5_h z27
            refine lv_iconst (v := iI (-1)) hx hb dX9_readDone_76 (by decide +kernel) ?_
            refine lv_icmp_eq (tgt := 86) hx hb dX9_readDone_77 (by decide) (fun c_50 => ?_) (fun c_50 => ?_)
            · replace c_50 := (iI_eq (by omega) (by omega) (by decide) (by decide)).mp c_50
              refine lv_aload_n hx hb dX9_readDone_86 rfl (lv_at hl 3 rfl) ?_
              refine k_V (ce := 0) (sl := 0) (rest := []) (wr := [(a0, .inr (9, [.ref a2, .ref a3, .ref a4, .ref a5, .ref a6, .ref a7, .ref a8, .ref a9, .ref a10, .int (iI x0), .int (iI x1), .int (iI x2), .int (iI x3), .int (iI x4), .int (iI x5), .int (iI x6), .int (iI x7), .int (iI x8)])), (a2, .inl (T 1, 9, .inr (.inl h0))), (a3, .inl (T 0, 9, .inl (cI f0))), (a4, .inl (T 0, 9, .inl (cI f1))), (a5, .inl (T 0, 9, .inl (cI f2))), (a6, .inl (T 0, 9, .inl (cI f3))), (a7, .inl (T 0, 9, .inl (cI f4))), (a8, .inl (T 0, 9, .inl (cI f5))), (a9, .inl (T 1, 3, .inr (.inl h1))), (a10, .inl (T 0, 3, .inl (cI f6)))]) (r_V (f := 4) [1, 11] M w V_HookedCity_Town_154 G587 G588 (c266_X8_step l D T _ a1 a11 x9 x10 z19 z20 z21 fo22 fy23 fr24 z25 z28 z29 f7 x9_a x9_b x10_a x10_b z19_a z19_b z20_a z20_b z21_a z21_b fo22_h z25_a z25_b z28_a z28_b z29_a z29_b f7_h) 1 clX8 rfl rfl (by decide) rfl hl.1 rfl (Nat.le_of_ble_eq_true rfl) dX9_readDone_87 (by decide) (by decide) (by decide) (by decide)) w [1, 11] [0, 2, 3, 4, 5, 6, 7, 8, 9, 10] rfl rfl (by decide) (by decide) rfl rfl (fun u H locs hp w => ?_)
              obtain ⟨z51, z52, z53, fo54, fy55, fr56, z57⟩ := u
              have z51_a : 0 ≤ z51 := hp.1
              have z51_b : z51 ≤ 940 := hp.2.1
              have z52_a : 0 ≤ z52 := hp.2.2.1
              have z52_b : z52 ≤ 940 := hp.2.2.2.1
              have z53_a : 0 ≤ z53 := hp.2.2.2.2.1
              have z53_b : z53 ≤ 5 := hp.2.2.2.2.2.1
              have fo54_h : wok T fo54 := hp.2.2.2.2.2.2.1
              have z57_a : (-2147483648) ≤ z57 := hp.2.2.2.2.2.2.2.1
              have z57_b : z57 ≤ 2147483647 := hp.2.2.2.2.2.2.2.2.1
              have pq58 : gC T (tkAt f7 x9 x10 z19) z53 z52 z51 fy55 fr56 z57 fo54 := hp.2.2.2.2.2.2.2.2.2
              have w : WD D A s.heap [(a0, .inr (9, [.ref a2, .ref a3, .ref a4, .ref a5, .ref a6, .ref a7, .ref a8, .ref a9, .ref a10, .int (iI x0), .int (iI x1), .int (iI x2), .int (iI x3), .int (iI x4), .int (iI x5), .int (iI x6), .int (iI x7), .int (iI x8)])), (a2, .inl (T 1, 9, .inr (.inl h0))), (a3, .inl (T 0, 9, .inl (cI f0))), (a4, .inl (T 0, 9, .inl (cI f1))), (a5, .inl (T 0, 9, .inl (cI f2))), (a6, .inl (T 0, 9, .inl (cI f3))), (a7, .inl (T 0, 9, .inl (cI f4))), (a8, .inl (T 0, 9, .inl (cI f5))), (a9, .inl (T 1, 3, .inr (.inl h1))), (a10, .inl (T 0, 3, .inl (cI f6))), (a1, .inr (8, [.ref a11, .int (iI x9), .int (iI x10), .int (iI z51), .int (iI z52), .int (iI z53), (va_rf fo54), .long fy55, .int fr56, .int (iI z57), .int (iI z28), .int (iI z29)])), (a11, .inl (T 0, 940, .inl (cI f7)))] H locs := w
              refine lv_aload_n hx hb dX9_readDone_90 rfl (lv_at hl 2 rfl) ?_
              refine r_get (v := .ref a7) M w 0 5 clX9 rfl (by decide) G379 rfl rfl dX9_readDone_91 ?_
              refine lv_iload_n hx hb dX9_readDone_94 rfl (lv_at hl 1 rfl) ?_
              refine lv_iload_n hx hb dX9_readDone_95 rfl (lv_at hl 0 rfl) ?_
              refine r_iast (ws' := [(a0, .inr (9, [.ref a2, .ref a3, .ref a4, .ref a5, .ref a6, .ref a7, .ref a8, .ref a9, .ref a10, .int (iI x0), .int (iI x1), .int (iI x2), .int (iI x3), .int (iI x4), .int (iI x5), .int (iI x6), .int (iI x7), .int (iI x8)])), (a2, .inl (T 1, 9, .inr (.inl h0))), (a3, .inl (T 0, 9, .inl (cI f0))), (a4, .inl (T 0, 9, .inl (cI f1))), (a5, .inl (T 0, 9, .inl (cI f2))), (a6, .inl (T 0, 9, .inl (cI f3))), (a7, .inl (T 0, 9, .inl (cI (upz f4 z9 z27)))), (a8, .inl (T 0, 9, .inl (cI f5))), (a9, .inl (T 1, 3, .inr (.inl h1))), (a10, .inl (T 0, 3, .inl (cI f6))), (a1, .inr (8, [.ref a11, .int (iI x9), .int (iI x10), .int (iI z51), .int (iI z52), .int (iI z53), (va_rf fo54), .long fy55, .int fr56, .int (iI z57), .int (iI z28), .int (iI z29)])), (a11, .inl (T 0, 940, .inl (cI f7)))]) M w 6 rfl (iI_in (by omega) (by omega) (by decide)) (by rw [cI_up (by omega) (by omega)]; rfl) dX9_readDone_96 (fun H locs w => ?_)
              refine lv_aload_n hx hb dX9_readDone_97 rfl (lv_at hl 2 rfl) ?_
              refine r_get (v := .ref a8) M w 0 6 clX9 rfl (by decide) G381 rfl rfl dX9_readDone_98 ?_
              refine lv_iload_n hx hb dX9_readDone_101 rfl (lv_at hl 0 rfl) ?_
              refine lv_iload_n hx hb dX9_readDone_102 rfl (lv_at hl 1 rfl) ?_
              refine r_iast (ws' := [(a0, .inr (9, [.ref a2, .ref a3, .ref a4, .ref a5, .ref a6, .ref a7, .ref a8, .ref a9, .ref a10, .int (iI x0), .int (iI x1), .int (iI x2), .int (iI x3), .int (iI x4), .int (iI x5), .int (iI x6), .int (iI x7), .int (iI x8)])), (a2, .inl (T 1, 9, .inr (.inl h0))), (a3, .inl (T 0, 9, .inl (cI f0))), (a4, .inl (T 0, 9, .inl (cI f1))), (a5, .inl (T 0, 9, .inl (cI f2))), (a6, .inl (T 0, 9, .inl (cI f3))), (a7, .inl (T 0, 9, .inl (cI (upz f4 z9 z27)))), (a8, .inl (T 0, 9, .inl (cI (upz f5 z27 z9)))), (a9, .inl (T 1, 3, .inr (.inl h1))), (a10, .inl (T 0, 3, .inl (cI f6))), (a1, .inr (8, [.ref a11, .int (iI x9), .int (iI x10), .int (iI z51), .int (iI z52), .int (iI z53), (va_rf fo54), .long fy55, .int fr56, .int (iI z57), .int (iI z28), .int (iI z29)])), (a11, .inl (T 0, 940, .inl (cI f7)))]) M w 7 rfl (iI_in (by omega) (by omega) (by decide)) (by rw [cI_up (by omega) (by omega)]; rfl) dX9_readDone_103 (fun H locs w => ?_)
              refine lv_iconst (v := iI 1) hx hb dX9_readDone_104 (by decide +kernel) ?_
              exact ret _ (1, z51, z52, z53, fo54, fy55, fr56, z57, z28, z29, (upz f4 z9 z27), (upz f5 z27 z9)) _ _ _ _ _ [0, 10, 1, 2, 3, 4, 5, 6, 7, 8, 9, 11] dX9_readDone_105 (by decide +kernel) ⟨rfl, (show (0 : Int) ≤ 1 from by decide), (show (1 : Int) ≤ 1 from by decide), z51_a, z51_b, z52_a, z52_b, z53_a, z53_b, fo54_h, z57_a, z57_b, z28_a, z28_b, z29_a, z29_b, (rng_up f4_h (by omega) (by omega)), (rng_up f5_h (by omega) (by omega)), (show ∀ (x : Tk × Int × Int) (rd : Int → Int) (h : Nat → Int64) (o : Int → Int), gC T x x13 x12 x11 y0 r0 x14 o0 → XW rd h o h0 f0 f1 f2 f3 f4 f5 h1 f6 x0 x1 x3 x4 x5 x6 x7 x8 → XP (sDone f7 x9 x10 x rd h o) 1 z28 z29 (fun y => gC T y z53 z52 z51 fy55 fr56 z57 fo54) (fun rd h o => XW rd h o h0 f0 f1 f2 f3 (upz f4 z9 z27) (upz f5 z27 z9) h1 f6 x0 x1 x3 x4 x5 x6 x7 x8) from (by intro x rd h o hx hw; have hw1 := hw.1; rw [sDone]; have g1 := gC_nx hx pq8; have c1 := pq13 _ rd h o g1 hw; refine bxV_ok c1 (by omega) ?_; have v1 := (XV_nn c1 (by omega)).2; have s1 := (hw.2.2.2.1 z9 (by omega) (by omega)).2; rw [if_neg (by omega)]; have g2 := gC_nx g1 pq26; have c2 := pq31 _ rd h o g2 hw; refine bxV_ok c2 (by omega) ?_; have v2 := (XV_nn c2 (by omega)).2; have l2 := (hw.2.1 z27 (by omega) (by omega)).2.1; have l1 := (hw.2.1 z9 (by omega) (by omega)).2.2.1; have g3 := gC_nx g2 pq58; rw [if_neg (done_ok hw (by omega) (by omega) (by omega) (by omega) (by omega))]; exact ⟨rfl, g3, xw_done hw (by omega) (by omega) (by omega) (by omega) (by omega) (by omega)⟩)), (show kpB 1 x15 z28 from (fun hr => by have y1 := pq15 (by omega); have y3 := pq33 (by omega); omega))⟩ w (by decide) rfl
            · replace c_50 : ¬ (f5 z27) = (-1) := fun h => c_50 ((iI_eq (by omega) (by omega) (by decide) (by decide)).mpr h)
              refine lv_aload_n hx hb dX9_readDone_80 rfl (lv_at hl 3 rfl) ?_
              refine lv_iconst (v := iI 3) hx hb dX9_readDone_81 (by decide +kernel) ?_
              refine k_I (ce := 0) (sl := 0) (rest := []) (wr := [(a0, .inr (9, [.ref a2, .ref a3, .ref a4, .ref a5, .ref a6, .ref a7, .ref a8, .ref a9, .ref a10, .int (iI x0), .int (iI x1), .int (iI x2), .int (iI x3), .int (iI x4), .int (iI x5), .int (iI x6), .int (iI x7), .int (iI x8)])), (a2, .inl (T 1, 9, .inr (.inl h0))), (a3, .inl (T 0, 9, .inl (cI f0))), (a4, .inl (T 0, 9, .inl (cI f1))), (a5, .inl (T 0, 9, .inl (cI f2))), (a6, .inl (T 0, 9, .inl (cI f3))), (a7, .inl (T 0, 9, .inl (cI f4))), (a8, .inl (T 0, 9, .inl (cI f5))), (a9, .inl (T 1, 3, .inr (.inl h1))), (a10, .inl (T 0, 3, .inl (cI f6))), (a11, .inl (T 0, 940, .inl (cI f7)))]) (r_V (f := 0) [1] M w V_HookedCity_Town_150 G710 G711 (c271_X8_fail l D T _ a1 3 a11 x9 x10 z19 z20 z21 fo22 fy23 fr24 z25 z28 z29 (by decide) (by decide) x9_a x9_b x10_a x10_b z19_a z19_b z20_a z20_b z21_a z21_b fo22_h z25_a z25_b z28_a z28_b z29_a z29_b) 1 clX8 rfl rfl (by decide) rfl hl.1 rfl (Nat.le_of_ble_eq_true rfl) dX9_readDone_82 (by decide) (by decide) (by decide) (by decide)) w [1] [0, 2, 3, 4, 5, 6, 7, 8, 9, 10, 11] rfl rfl (by decide) (by decide) rfl rfl (fun v u H locs hp w => ?_)
              obtain ⟨z59, z60, z61⟩ := u
              have hv : iI z59 = v := hp.1
              subst hv
              have z59_a : 0 ≤ z59 := hp.2.1
              have z59_b : z59 ≤ 1 := hp.2.2.1
              have z60_a : (-2147483648) ≤ z60 := hp.2.2.2.1
              have z60_b : z60 ≤ 2147483647 := hp.2.2.2.2.1
              have z61_a : 0 ≤ z61 := hp.2.2.2.2.2.1
              have z61_b : z61 ≤ 940 := hp.2.2.2.2.2.2.1
              have pq62 : z60 = 3 := hp.2.2.2.2.2.2.2.1
              have pq63 : z61 = z20 := hp.2.2.2.2.2.2.2.2.1
              have w : WD D A s.heap [(a0, .inr (9, [.ref a2, .ref a3, .ref a4, .ref a5, .ref a6, .ref a7, .ref a8, .ref a9, .ref a10, .int (iI x0), .int (iI x1), .int (iI x2), .int (iI x3), .int (iI x4), .int (iI x5), .int (iI x6), .int (iI x7), .int (iI x8)])), (a2, .inl (T 1, 9, .inr (.inl h0))), (a3, .inl (T 0, 9, .inl (cI f0))), (a4, .inl (T 0, 9, .inl (cI f1))), (a5, .inl (T 0, 9, .inl (cI f2))), (a6, .inl (T 0, 9, .inl (cI f3))), (a7, .inl (T 0, 9, .inl (cI f4))), (a8, .inl (T 0, 9, .inl (cI f5))), (a9, .inl (T 1, 3, .inr (.inl h1))), (a10, .inl (T 0, 3, .inl (cI f6))), (a11, .inl (T 0, 940, .inl (cI f7))), (a1, .inr (8, [.ref a11, .int (iI x9), .int (iI x10), .int (iI z19), .int (iI z20), .int (iI z21), (va_rf fo22), .long fy23, .int fr24, .int (iI z25), .int (iI z60), .int (iI z61)]))] H locs := w
              rcases hp.2.2.2.2.2.2.2.2.2 with hr
              · subst hr
                exact ret _ (0, z19, z20, z21, fo22, fy23, fr24, z25, z60, z61, f4, f5) _ _ _ _ _ [0, 11, 1, 2, 3, 4, 5, 6, 7, 8, 9, 10] dX9_readDone_85 (by decide +kernel) ⟨rfl, (show (0 : Int) ≤ 0 from by decide), (show (0 : Int) ≤ 1 from by decide), z19_a, z19_b, z20_a, z20_b, z21_a, z21_b, fo22_h, z25_a, z25_b, z60_a, z60_b, z61_a, z61_b, f4_h, f5_h, (show ∀ (x : Tk × Int × Int) (rd : Int → Int) (h : Nat → Int64) (o : Int → Int), gC T x x13 x12 x11 y0 r0 x14 o0 → XW rd h o h0 f0 f1 f2 f3 f4 f5 h1 f6 x0 x1 x3 x4 x5 x6 x7 x8 → XP (sDone f7 x9 x10 x rd h o) 0 z60 z61 (fun y => gC T y z21 z20 z19 fy23 fr24 z25 fo22) (fun rd h o => XW rd h o h0 f0 f1 f2 f3 f4 f5 h1 f6 x0 x1 x3 x4 x5 x6 x7 x8) from (by intro x rd h o hx hw; have hw1 := hw.1; rw [sDone]; have g1 := gC_nx hx pq8; have c1 := pq13 _ rd h o g1 hw; refine bxV_ok c1 (by omega) ?_; have v1 := (XV_nn c1 (by omega)).2; have s1 := (hw.2.2.2.1 z9 (by omega) (by omega)).2; rw [if_neg (by omega)]; have g2 := gC_nx g1 pq26; have c2 := pq31 _ rd h o g2 hw; refine bxV_ok c2 (by omega) ?_; have v2 := (XV_nn c2 (by omega)).2; have l2 := (hw.2.1 z27 (by omega) (by omega)).2.1; have l1 := (hw.2.1 z9 (by omega) (by omega)).2.2.1; rw [if_pos (done_bad hw (by omega) (by omega) (f5_h z27).1 (f5_h z27).2 (by omega))]; exact ⟨rfl, by omega, pq63.trans g2.1⟩)), (show kpB 0 x15 z60 from (fun e => absurd e (by decide)))⟩ w (by decide) rfl
      · replace c_34 := (iI_eq (Int.le_trans (by decide) z27_a) (Int.le_trans z27_b (by decide)) (by decide) (by decide)).mp c_34
        refine lv_iconst (v := iI 0) hx hb dX9_readDone_48 (by decide +kernel) ?_
        exact ret _ (0, z19, z20, z21, fo22, fy23, fr24, z25, z28, z29, f4, f5) _ _ _ _ _ [0, 1, 2, 3, 4, 5, 6, 7, 8, 9, 10, 11] dX9_readDone_49 (by decide +kernel) ⟨rfl, (show (0 : Int) ≤ 0 from by decide), (show (0 : Int) ≤ 1 from by decide), z19_a, z19_b, z20_a, z20_b, z21_a, z21_b, fo22_h, z25_a, z25_b, z28_a, z28_b, z29_a, z29_b, f4_h, f5_h, (show ∀ (x : Tk × Int × Int) (rd : Int → Int) (h : Nat → Int64) (o : Int → Int), gC T x x13 x12 x11 y0 r0 x14 o0 → XW rd h o h0 f0 f1 f2 f3 f4 f5 h1 f6 x0 x1 x3 x4 x5 x6 x7 x8 → XP (sDone f7 x9 x10 x rd h o) 0 z28 z29 (fun y => gC T y z21 z20 z19 fy23 fr24 z25 fo22) (fun rd h o => XW rd h o h0 f0 f1 f2 f3 f4 f5 h1 f6 x0 x1 x3 x4 x5 x6 x7 x8) from (by intro x rd h o hx hw; have hw1 := hw.1; rw [sDone]; have g1 := gC_nx hx pq8; have c1 := pq13 _ rd h o g1 hw; refine bxV_ok c1 (by omega) ?_; have v1 := (XV_nn c1 (by omega)).2; have s1 := (hw.2.2.2.1 z9 (by omega) (by omega)).2; rw [if_neg (by omega)]; have g2 := gC_nx g1 pq26; have c2 := pq31 _ rd h o g2 hw; exact bxV_bad c2 (by omega) rfl)), (show kpB 0 x15 z28 from (fun e => absurd e (by decide)))⟩ w (by decide) rfl
    · replace c_18 : ¬ (f4 z9) = (-1) := fun h => c_18 ((iI_eq (by omega) (by omega) (by decide) (by decide)).mpr h)
      refine lv_aload_n hx hb dX9_readDone_27 rfl (lv_at hl 2 rfl) ?_
      refine lv_iconst (v := iI 3) hx hb dX9_readDone_28 (by decide +kernel) ?_
      refine k_I (ce := 0) (sl := 0) (rest := []) (wr := [(a0, .inr (9, [.ref a2, .ref a3, .ref a4, .ref a5, .ref a6, .ref a7, .ref a8, .ref a9, .ref a10, .int (iI x0), .int (iI x1), .int (iI x2), .int (iI x3), .int (iI x4), .int (iI x5), .int (iI x6), .int (iI x7), .int (iI x8)])), (a2, .inl (T 1, 9, .inr (.inl h0))), (a3, .inl (T 0, 9, .inl (cI f0))), (a4, .inl (T 0, 9, .inl (cI f1))), (a5, .inl (T 0, 9, .inl (cI f2))), (a6, .inl (T 0, 9, .inl (cI f3))), (a7, .inl (T 0, 9, .inl (cI f4))), (a8, .inl (T 0, 9, .inl (cI f5))), (a9, .inl (T 1, 3, .inr (.inl h1))), (a10, .inl (T 0, 3, .inl (cI f6))), (a11, .inl (T 0, 940, .inl (cI f7)))]) (r_V (f := 0) [1] M w V_HookedCity_Town_150 G710 G711 (c271_X8_fail l D T _ a1 3 a11 x9 x10 z1 z2 z3 fo4 fy5 fr6 z7 z10 z11 (by decide) (by decide) x9_a x9_b x10_a x10_b z1_a z1_b z2_a z2_b z3_a z3_b fo4_h z7_a z7_b z10_a z10_b z11_a z11_b) 1 clX8 rfl rfl (by decide) rfl hl.1 rfl (Nat.le_of_ble_eq_true rfl) dX9_readDone_29 (by decide) (by decide) (by decide) (by decide)) w [1] [0, 2, 3, 4, 5, 6, 7, 8, 9, 10, 11] rfl rfl (by decide) (by decide) rfl rfl (fun v u H locs hp w => ?_)
      obtain ⟨z64, z65, z66⟩ := u
      have hv : iI z64 = v := hp.1
      subst hv
      have z64_a : 0 ≤ z64 := hp.2.1
      have z64_b : z64 ≤ 1 := hp.2.2.1
      have z65_a : (-2147483648) ≤ z65 := hp.2.2.2.1
      have z65_b : z65 ≤ 2147483647 := hp.2.2.2.2.1
      have z66_a : 0 ≤ z66 := hp.2.2.2.2.2.1
      have z66_b : z66 ≤ 940 := hp.2.2.2.2.2.2.1
      have pq67 : z65 = 3 := hp.2.2.2.2.2.2.2.1
      have pq68 : z66 = z2 := hp.2.2.2.2.2.2.2.2.1
      have w : WD D A s.heap [(a0, .inr (9, [.ref a2, .ref a3, .ref a4, .ref a5, .ref a6, .ref a7, .ref a8, .ref a9, .ref a10, .int (iI x0), .int (iI x1), .int (iI x2), .int (iI x3), .int (iI x4), .int (iI x5), .int (iI x6), .int (iI x7), .int (iI x8)])), (a2, .inl (T 1, 9, .inr (.inl h0))), (a3, .inl (T 0, 9, .inl (cI f0))), (a4, .inl (T 0, 9, .inl (cI f1))), (a5, .inl (T 0, 9, .inl (cI f2))), (a6, .inl (T 0, 9, .inl (cI f3))), (a7, .inl (T 0, 9, .inl (cI f4))), (a8, .inl (T 0, 9, .inl (cI f5))), (a9, .inl (T 1, 3, .inr (.inl h1))), (a10, .inl (T 0, 3, .inl (cI f6))), (a11, .inl (T 0, 940, .inl (cI f7))), (a1, .inr (8, [.ref a11, .int (iI x9), .int (iI x10), .int (iI z1), .int (iI z2), .int (iI z3), (va_rf fo4), .long fy5, .int fr6, .int (iI z7), .int (iI z65), .int (iI z66)]))] H locs := w
      rcases hp.2.2.2.2.2.2.2.2.2 with hr
      · subst hr
        exact ret _ (0, z1, z2, z3, fo4, fy5, fr6, z7, z65, z66, f4, f5) _ _ _ _ _ [0, 11, 1, 2, 3, 4, 5, 6, 7, 8, 9, 10] dX9_readDone_32 (by decide +kernel) ⟨rfl, (show (0 : Int) ≤ 0 from by decide), (show (0 : Int) ≤ 1 from by decide), z1_a, z1_b, z2_a, z2_b, z3_a, z3_b, fo4_h, z7_a, z7_b, z65_a, z65_b, z66_a, z66_b, f4_h, f5_h, (show ∀ (x : Tk × Int × Int) (rd : Int → Int) (h : Nat → Int64) (o : Int → Int), gC T x x13 x12 x11 y0 r0 x14 o0 → XW rd h o h0 f0 f1 f2 f3 f4 f5 h1 f6 x0 x1 x3 x4 x5 x6 x7 x8 → XP (sDone f7 x9 x10 x rd h o) 0 z65 z66 (fun y => gC T y z3 z2 z1 fy5 fr6 z7 fo4) (fun rd h o => XW rd h o h0 f0 f1 f2 f3 f4 f5 h1 f6 x0 x1 x3 x4 x5 x6 x7 x8) from (by intro x rd h o hx hw; have hw1 := hw.1; rw [sDone]; have g1 := gC_nx hx pq8; have c1 := pq13 _ rd h o g1 hw; refine bxV_ok c1 (by omega) ?_; have v1 := (XV_nn c1 (by omega)).2; have s1 := (hw.2.2.2.1 z9 (by omega) (by omega)).2; rw [if_pos (by omega)]; exact ⟨rfl, by omega, pq68.trans g1.1⟩)), (show kpB 0 x15 z65 from (fun e => absurd e (by decide)))⟩ w (by decide) rfl
  · replace c_16 := (iI_eq (Int.le_trans (by decide) z9_a) (Int.le_trans z9_b (by decide)) (by decide) (by decide)).mp c_16
    refine lv_iconst (v := iI 0) hx hb dX9_readDone_15 (by decide +kernel) ?_
    exact ret _ (0, z1, z2, z3, fo4, fy5, fr6, z7, z10, z11, f4, f5) _ _ _ _ _ [0, 1, 2, 3, 4, 5, 6, 7, 8, 9, 10, 11] dX9_readDone_16 (by decide +kernel) ⟨rfl, (show (0 : Int) ≤ 0 from by decide), (show (0 : Int) ≤ 1 from by decide), z1_a, z1_b, z2_a, z2_b, z3_a, z3_b, fo4_h, z7_a, z7_b, z10_a, z10_b, z11_a, z11_b, f4_h, f5_h, (show ∀ (x : Tk × Int × Int) (rd : Int → Int) (h : Nat → Int64) (o : Int → Int), gC T x x13 x12 x11 y0 r0 x14 o0 → XW rd h o h0 f0 f1 f2 f3 f4 f5 h1 f6 x0 x1 x3 x4 x5 x6 x7 x8 → XP (sDone f7 x9 x10 x rd h o) 0 z10 z11 (fun y => gC T y z3 z2 z1 fy5 fr6 z7 fo4) (fun rd h o => XW rd h o h0 f0 f1 f2 f3 f4 f5 h1 f6 x0 x1 x3 x4 x5 x6 x7 x8) from (by intro x rd h o hx hw; have hw1 := hw.1; rw [sDone]; have g1 := gC_nx hx pq8; have c1 := pq13 _ rd h o g1 hw; exact bxV_bad c1 (by omega) rfl)), (show kpB 0 x15 z10 from (fun e => absurd e (by decide)))⟩ w (by decide) rfl
set_option maxRecDepth 100000 in
set_option maxHeartbeats 4000000 in
theorem c286_X9_readStreet (l : Launch) (D : va_G) (T : Nat → ClassId) (sz : Nat) (a0 : Nat) (a1 : Nat) (a2 : Nat) (a3 : Nat) (a4 : Nat) (a5 : Nat) (a6 : Nat) (a7 : Nat) (a8 : Nat) (a9 : Nat) (a10 : Nat) (x0 : Int) (x1 : Int) (x2 : Int) (x3 : Int) (x4 : Int) (x5 : Int) (x6 : Int) (x7 : Int) (x8 : Int) (a11 : Nat) (x9 : Int) (x10 : Int) (x11 : Int) (x12 : Int) (x13 : Int) (o0 : Option Nat) (y0 : Int64) (r0 : Int32) (x14 : Int) (x15 : Int) (x16 : Int) (h0 : Nat → Int64) (f0 : Int → Int) (f1 : Int → Int) (f2 : Int → Int) (f3 : Int → Int) (f4 : Int → Int) (f5 : Int → Int) (h1 : Nat → Int64) (f6 : Int → Int) (f7 : Int → Int) (x0_a : 0 ≤ x0) (x0_b : x0 ≤ 9) (x1_a : 0 ≤ x1) (x1_b : x1 ≤ 3) (x2_a : 0 ≤ x2) (x2_b : x2 ≤ 900) (x3_a : (-2147483648) ≤ x3) (x3_b : x3 ≤ 2147483647) (x4_a : (-2147483648) ≤ x4) (x4_b : x4 ≤ 2147483647) (x5_a : (-2147483648) ≤ x5) (x5_b : x5 ≤ 2147483647) (x6_a : 0 ≤ x6) (x6_b : x6 ≤ 1) (x7_a : 0 ≤ x7) (x7_b : x7 ≤ 1) (x8_a : 0 ≤ x8) (x8_b : x8 ≤ 1) (x9_a : 0 ≤ x9) (x9_b : x9 ≤ 940) (x10_a : 0 ≤ x10) (x10_b : x10 ≤ 940) (x11_a : 0 ≤ x11) (x11_b : x11 ≤ 940) (x12_a : 0 ≤ x12) (x12_b : x12 ≤ 940) (x13_a : 0 ≤ x13) (x13_b : x13 ≤ 5) (o0_h : wok T o0) (x14_a : (-2147483648) ≤ x14) (x14_b : x14 ≤ 2147483647) (x15_a : (-2147483648) ≤ x15) (x15_b : x15 ≤ 2147483647) (x16_a : 0 ≤ x16) (x16_b : x16 ≤ 940) (f0_h : rng (-2147483648) 2147483647 f0) (f1_h : rng (-2147483648) 2147483647 f1) (f2_h : rng (-2147483648) 2147483647 f2) (f3_h : rng 0 511 f3) (f4_h : rng (-1) 8 f4) (f5_h : rng (-1) 8 f5) (f6_h : rng (-2147483648) 2147483647 f6) (f7_h : rng 0 255 f7) : Met l yX9_readStreet (Cond.code yX9_readStreet cX9_readStreet 4 (some .boolean) :: GW) (Rm 5 0 0) (cPre [.ref a0, .ref a1] D T [(a0, .inr (9, [.ref a2, .ref a3, .ref a4, .ref a5, .ref a6, .ref a7, .ref a8, .ref a9, .ref a10, .int (iI x0), .int (iI x1), .int (iI x2), .int (iI x3), .int (iI x4), .int (iI x5), .int (iI x6), .int (iI x7), .int (iI x8)])), (a1, .inr (8, [.ref a11, .int (iI x9), .int (iI x10), .int (iI x11), .int (iI x12), .int (iI x13), (va_rf o0), .long y0, .int r0, .int (iI x14), .int (iI x15), .int (iI x16)])), (a2, .inl (T 1, 9, .inr (.inl h0))), (a3, .inl (T 0, 9, .inl (cI f0))), (a4, .inl (T 0, 9, .inl (cI f1))), (a5, .inl (T 0, 9, .inl (cI f2))), (a6, .inl (T 0, 9, .inl (cI f3))), (a7, .inl (T 0, 9, .inl (cI f4))), (a8, .inl (T 0, 9, .inl (cI f5))), (a9, .inl (T 1, 3, .inr (.inl h1))), (a10, .inl (T 0, 3, .inl (cI f6))), (a11, .inl (T 0, 940, .inl (cI f7)))] sz) (qI D [(a0, .inr (9, [.ref a2, .ref a3, .ref a4, .ref a5, .ref a6, .ref a7, .ref a8, .ref a9, .ref a10, .int (iI x0), .int (iI x1), .int (iI x2), .int (iI x3), .int (iI x4), .int (iI x5), .int (iI x6), .int (iI x7), .int (iI x8)])), (a1, .inr (8, [.ref a11, .int (iI x9), .int (iI x10), .int (iI x11), .int (iI x12), .int (iI x13), (va_rf o0), .long y0, .int r0, .int (iI x14), .int (iI x15), .int (iI x16)])), (a2, .inl (T 1, 9, .inr (.inl h0))), (a3, .inl (T 0, 9, .inl (cI f0))), (a4, .inl (T 0, 9, .inl (cI f1))), (a5, .inl (T 0, 9, .inl (cI f2))), (a6, .inl (T 0, 9, .inl (cI f3))), (a7, .inl (T 0, 9, .inl (cI f4))), (a8, .inl (T 0, 9, .inl (cI f5))), (a9, .inl (T 1, 3, .inr (.inl h1))), (a10, .inl (T 0, 3, .inl (cI f6))), (a11, .inl (T 0, 940, .inl (cI f7)))] sz (fun (v : Int32) (u : Int × Int × Int × Int × Option Nat × Int64 × Int32 × Int × Int × Int × (Int → Int)) => iI u.1 = v ∧ 0 ≤ u.1 ∧ u.1 ≤ 1 ∧ 0 ≤ u.2.1 ∧ u.2.1 ≤ 940 ∧ 0 ≤ u.2.2.1 ∧ u.2.2.1 ≤ 940 ∧ 0 ≤ u.2.2.2.1 ∧ u.2.2.2.1 ≤ 5 ∧ wok T u.2.2.2.2.1 ∧ (-2147483648) ≤ u.2.2.2.2.2.2.2.1 ∧ u.2.2.2.2.2.2.2.1 ≤ 2147483647 ∧ (-2147483648) ≤ u.2.2.2.2.2.2.2.2.1 ∧ u.2.2.2.2.2.2.2.2.1 ≤ 2147483647 ∧ 0 ≤ u.2.2.2.2.2.2.2.2.2.1 ∧ u.2.2.2.2.2.2.2.2.2.1 ≤ 940 ∧ rng 0 511 u.2.2.2.2.2.2.2.2.2.2 ∧ (∀ (x : Tk × Int × Int) (rd : Int → Int) (h : Nat → Int64) (o : Int → Int), gC T x x13 x12 x11 y0 r0 x14 o0 → XW rd h o h0 f0 f1 f2 f3 f4 f5 h1 f6 x0 x1 x3 x4 x5 x6 x7 x8 → XP (sStreet f7 x9 x10 x rd h o) u.1 u.2.2.2.2.2.2.2.2.1 u.2.2.2.2.2.2.2.2.2.1 (fun y => gC T y u.2.2.2.1 u.2.2.1 u.2.1 u.2.2.2.2.2.1 u.2.2.2.2.2.2.1 u.2.2.2.2.2.2.2.1 u.2.2.2.2.1) (fun rd h o => XW rd h o h0 f0 f1 f2 u.2.2.2.2.2.2.2.2.2.2 f4 f5 h1 f6 x0 x1 x3 x4 x5 x6 x7 x8)) ∧ (kpB u.1 x15 u.2.2.2.2.2.2.2.2.1)) (fun u => [(a0, .inr (9, [.ref a2, .ref a3, .ref a4, .ref a5, .ref a6, .ref a7, .ref a8, .ref a9, .ref a10, .int (iI x0), .int (iI x1), .int (iI x2), .int (iI x3), .int (iI x4), .int (iI x5), .int (iI x6), .int (iI x7), .int (iI x8)])), (a1, .inr (8, [.ref a11, .int (iI x9), .int (iI x10), .int (iI u.2.1), .int (iI u.2.2.1), .int (iI u.2.2.2.1), (va_rf u.2.2.2.2.1), .long u.2.2.2.2.2.1, .int u.2.2.2.2.2.2.1, .int (iI u.2.2.2.2.2.2.2.1), .int (iI u.2.2.2.2.2.2.2.2.1), .int (iI u.2.2.2.2.2.2.2.2.2.1)])), (a2, .inl (T 1, 9, .inr (.inl h0))), (a3, .inl (T 0, 9, .inl (cI f0))), (a4, .inl (T 0, 9, .inl (cI f1))), (a5, .inl (T 0, 9, .inl (cI f2))), (a6, .inl (T 0, 9, .inl (cI u.2.2.2.2.2.2.2.2.2.2))), (a7, .inl (T 0, 9, .inl (cI f4))), (a8, .inl (T 0, 9, .inl (cI f5))), (a9, .inl (T 1, 3, .inr (.inl h1))), (a10, .inl (T 0, 3, .inl (cI f6))), (a11, .inl (T 0, 940, .inl (cI f7)))])) 0 0 (va_A [(a0, .inr (9, [.ref a2, .ref a3, .ref a4, .ref a5, .ref a6, .ref a7, .ref a8, .ref a9, .ref a10, .int (iI x0), .int (iI x1), .int (iI x2), .int (iI x3), .int (iI x4), .int (iI x5), .int (iI x6), .int (iI x7), .int (iI x8)])), (a1, .inr (8, [.ref a11, .int (iI x9), .int (iI x10), .int (iI x11), .int (iI x12), .int (iI x13), (va_rf o0), .long y0, .int r0, .int (iI x14), .int (iI x15), .int (iI x16)])), (a2, .inl (T 1, 9, .inr (.inl h0))), (a3, .inl (T 0, 9, .inl (cI f0))), (a4, .inl (T 0, 9, .inl (cI f1))), (a5, .inl (T 0, 9, .inl (cI f2))), (a6, .inl (T 0, 9, .inl (cI f3))), (a7, .inl (T 0, 9, .inl (cI f4))), (a8, .inl (T 0, 9, .inl (cI f5))), (a9, .inl (T 1, 3, .inr (.inl h1))), (a10, .inl (T 0, 3, .inl (cI f6))), (a11, .inl (T 0, 940, .inl (cI f7)))] sz) := by
  refine e_Z (by decide) (Nat.le_of_ble_eq_true rfl) ?_
  intro p e s m args below meth c A Q ls M hin w ret hl
  have hx := M.1.1
  have hb := M.1.2.1
  have hl : lv_has ls 4 [(0, .ref a0), (1, .ref a1)] := hl
  refine lv_aload_n hx hb dX9_readStreet_0 rfl (lv_at hl 1 rfl) ?_
  refine k_V (ce := 0) (sl := 0) (rest := []) (wr := [(a0, .inr (9, [.ref a2, .ref a3, .ref a4, .ref a5, .ref a6, .ref a7, .ref a8, .ref a9, .ref a10, .int (iI x0), .int (iI x1), .int (iI x2), .int (iI x3), .int (iI x4), .int (iI x5), .int (iI x6), .int (iI x7), .int (iI x8)])), (a2, .inl (T 1, 9, .inr (.inl h0))), (a3, .inl (T 0, 9, .inl (cI f0))), (a4, .inl (T 0, 9, .inl (cI f1))), (a5, .inl (T 0, 9, .inl (cI f2))), (a6, .inl (T 0, 9, .inl (cI f3))), (a7, .inl (T 0, 9, .inl (cI f4))), (a8, .inl (T 0, 9, .inl (cI f5))), (a9, .inl (T 1, 3, .inr (.inl h1))), (a10, .inl (T 0, 3, .inl (cI f6)))]) (r_V (f := 4) [1, 11] M w V_HookedCity_Town_154 G587 G588 (c266_X8_step l D T _ a1 a11 x9 x10 x11 x12 x13 o0 y0 r0 x14 x15 x16 f7 x9_a x9_b x10_a x10_b x11_a x11_b x12_a x12_b x13_a x13_b o0_h x14_a x14_b x15_a x15_b x16_a x16_b f7_h) 1 clX8 rfl rfl (by decide) rfl hl.1 rfl (Nat.le_of_ble_eq_true rfl) dX9_readStreet_1 (by decide) (by decide) (by decide) (by decide)) w [1, 11] [0, 2, 3, 4, 5, 6, 7, 8, 9, 10] rfl rfl (by decide) (by decide) rfl rfl (fun u H locs hp w => ?_)
  obtain ⟨z1, z2, z3, fo4, fy5, fr6, z7⟩ := u
  have z1_a : 0 ≤ z1 := hp.1
  have z1_b : z1 ≤ 940 := hp.2.1
  have z2_a : 0 ≤ z2 := hp.2.2.1
  have z2_b : z2 ≤ 940 := hp.2.2.2.1
  have z3_a : 0 ≤ z3 := hp.2.2.2.2.1
  have z3_b : z3 ≤ 5 := hp.2.2.2.2.2.1
  have fo4_h : wok T fo4 := hp.2.2.2.2.2.2.1
  have z7_a : (-2147483648) ≤ z7 := hp.2.2.2.2.2.2.2.1
  have z7_b : z7 ≤ 2147483647 := hp.2.2.2.2.2.2.2.2.1
  have pq8 : gC T (tkAt f7 x9 x10 x11) z3 z2 z1 fy5 fr6 z7 fo4 := hp.2.2.2.2.2.2.2.2.2
  have w : WD D A s.heap [(a0, .inr (9, [.ref a2, .ref a3, .ref a4, .ref a5, .ref a6, .ref a7, .ref a8, .ref a9, .ref a10, .int (iI x0), .int (iI x1), .int (iI x2), .int (iI x3), .int (iI x4), .int (iI x5), .int (iI x6), .int (iI x7), .int (iI x8)])), (a2, .inl (T 1, 9, .inr (.inl h0))), (a3, .inl (T 0, 9, .inl (cI f0))), (a4, .inl (T 0, 9, .inl (cI f1))), (a5, .inl (T 0, 9, .inl (cI f2))), (a6, .inl (T 0, 9, .inl (cI f3))), (a7, .inl (T 0, 9, .inl (cI f4))), (a8, .inl (T 0, 9, .inl (cI f5))), (a9, .inl (T 1, 3, .inr (.inl h1))), (a10, .inl (T 0, 3, .inl (cI f6))), (a1, .inr (8, [.ref a11, .int (iI x9), .int (iI x10), .int (iI z1), .int (iI z2), .int (iI z3), (va_rf fo4), .long fy5, .int fr6, .int (iI z7), .int (iI x15), .int (iI x16)])), (a11, .inl (T 0, 940, .inl (cI f7)))] H locs := w
  refine lv_aload_n hx hb dX9_readStreet_4 rfl (lv_at hl 0 rfl) ?_
  refine lv_aload_n hx hb dX9_readStreet_5 rfl (lv_at hl 1 rfl) ?_
  refine k_I (ce := 0) (sl := 0) (rest := []) (wr := []) (r_V (f := 2) [0, 10, 1, 2, 3, 4, 5, 6, 7, 8, 9, 11] M w V_HookedCity_Town_172 G743 G744 (c284_X9_personAt l D T _ a0 a1 a2 a3 a4 a5 a6 a7 a8 a9 a10 x0 x1 x2 x3 x4 x5 x6 x7 x8 a11 x9 x10 z1 z2 z3 fo4 fy5 fr6 z7 x15 x16 h0 f0 f1 f2 f3 f4 f5 h1 f6 f7 x0_a x0_b x1_a x1_b x2_a x2_b x3_a x3_b x4_a x4_b x5_a x5_b x6_a x6_b x7_a x7_b x8_a x8_b x9_a x9_b x10_a x10_b z1_a z1_b z2_a z2_b z3_a z3_b fo4_h z7_a z7_b x15_a x15_b x16_a x16_b f0_h f1_h f2_h f3_h f4_h f5_h f6_h f7_h) 0 clX9 rfl rfl (by decide) rfl hl.1 rfl (Nat.le_of_ble_eq_true rfl) dX9_readStreet_6 (by decide) (by decide) (by decide) (by decide)) w [0, 10, 1, 2, 3, 4, 5, 6, 7, 8, 9, 11] [] rfl rfl (by decide) (by decide) rfl rfl (fun v u H locs hp w => ?_)
  obtain ⟨z9, z10, z11⟩ := u
  have hv : iI z9 = v := hp.1
  subst hv
  have z9_a : (-1) ≤ z9 := hp.2.1
  have z9_b : z9 ≤ 8 := hp.2.2.1
  have z10_a : (-2147483648) ≤ z10 := hp.2.2.2.1
  have z10_b : z10 ≤ 2147483647 := hp.2.2.2.2.1
  have z11_a : 0 ≤ z11 := hp.2.2.2.2.2.1
  have z11_b : z11 ≤ 940 := hp.2.2.2.2.2.2.1
  have ee12 : 0 ≤ ((x0 - z9) - 1) := hp.2.2.2.2.2.2.2.1
  have pq13 : ∀ (x : Tk × Int × Int) (rd : Int → Int) (h : Nat → Int64) (o : Int → Int), gC T x z3 z2 z1 fy5 fr6 z7 fo4 → XW rd h o h0 f0 f1 f2 f3 f4 f5 h1 f6 x0 x1 x3 x4 x5 x6 x7 x8 → XV (sOne rd h x) z9 z10 z11 := hp.2.2.2.2.2.2.2.2.1
  have pq14 : ∀ x : Tk × Int × Int, gC T x z3 z2 z1 fy5 fr6 z7 fo4 → XV ((sNa h0 x0) x) z9 z10 z11 := hp.2.2.2.2.2.2.2.2.2.1
  have pq15 : kpF z9 x15 z10 := hp.2.2.2.2.2.2.2.2.2.2
  have w : WD D A s.heap [(a0, .inr (9, [.ref a2, .ref a3, .ref a4, .ref a5, .ref a6, .ref a7, .ref a8, .ref a9, .ref a10, .int (iI x0), .int (iI x1), .int (iI x2), .int (iI x3), .int (iI x4), .int (iI x5), .int (iI x6), .int (iI x7), .int (iI x8)])), (a1, .inr (8, [.ref a11, .int (iI x9), .int (iI x10), .int (iI z1), .int (iI z2), .int (iI z3), (va_rf fo4), .long fy5, .int fr6, .int (iI z7), .int (iI z10), .int (iI z11)])), (a2, .inl (T 1, 9, .inr (.inl h0))), (a3, .inl (T 0, 9, .inl (cI f0))), (a4, .inl (T 0, 9, .inl (cI f1))), (a5, .inl (T 0, 9, .inl (cI f2))), (a6, .inl (T 0, 9, .inl (cI f3))), (a7, .inl (T 0, 9, .inl (cI f4))), (a8, .inl (T 0, 9, .inl (cI f5))), (a9, .inl (T 1, 3, .inr (.inl h1))), (a10, .inl (T 0, 3, .inl (cI f6))), (a11, .inl (T 0, 940, .inl (cI f7)))] H locs := w
  refine lv_istore_n (lv' := [(2, .int (iI z9)), (0, .ref a0), (1, .ref a1)]) hx hb dX9_readStreet_9 rfl hl (by decide) rfl (fun ls hl => ?_)
  refine lv_iload_n hx hb dX9_readStreet_10 rfl (lv_at hl 0 rfl) ?_
  refine lv_iconst (v := iI (-1)) hx hb dX9_readStreet_11 (by decide +kernel) ?_
  refine lv_icmp_ne (tgt := 17) hx hb dX9_readStreet_12 (by decide) (fun c_16 => ?_) (fun c_16 => ?_)
  · replace c_16 : ¬ z9 = (-1) := fun h => c_16 ((iI_eq (Int.le_trans (by decide) z9_a) (Int.le_trans z9_b (by decide)) (by decide) (by decide)).mpr h)
    refine lv_aload_n hx hb dX9_readStreet_17 rfl (lv_at hl 2 rfl) ?_
    refine k_V (ce := 0) (sl := 0) (rest := []) (wr := [(a0, .inr (9, [.ref a2, .ref a3, .ref a4, .ref a5, .ref a6, .ref a7, .ref a8, .ref a9, .ref a10, .int (iI x0), .int (iI x1), .int (iI x2), .int (iI x3), .int (iI x4), .int (iI x5), .int (iI x6), .int (iI x7), .int (iI x8)])), (a2, .inl (T 1, 9, .inr (.inl h0))), (a3, .inl (T 0, 9, .inl (cI f0))), (a4, .inl (T 0, 9, .inl (cI f1))), (a5, .inl (T 0, 9, .inl (cI f2))), (a6, .inl (T 0, 9, .inl (cI f3))), (a7, .inl (T 0, 9, .inl (cI f4))), (a8, .inl (T 0, 9, .inl (cI f5))), (a9, .inl (T 1, 3, .inr (.inl h1))), (a10, .inl (T 0, 3, .inl (cI f6)))]) (r_V (f := 4) [1, 11] M w V_HookedCity_Town_154 G587 G588 (c266_X8_step l D T _ a1 a11 x9 x10 z1 z2 z3 fo4 fy5 fr6 z7 z10 z11 f7 x9_a x9_b x10_a x10_b z1_a z1_b z2_a z2_b z3_a z3_b fo4_h z7_a z7_b z10_a z10_b z11_a z11_b f7_h) 1 clX8 rfl rfl (by decide) rfl hl.1 rfl (Nat.le_of_ble_eq_true rfl) dX9_readStreet_18 (by decide) (by decide) (by decide) (by decide)) w [1, 11] [0, 2, 3, 4, 5, 6, 7, 8, 9, 10] rfl rfl (by decide) (by decide) rfl rfl (fun u H locs hp w => ?_)
    obtain ⟨z17, z18, z19, fo20, fy21, fr22, z23⟩ := u
    have z17_a : 0 ≤ z17 := hp.1
    have z17_b : z17 ≤ 940 := hp.2.1
    have z18_a : 0 ≤ z18 := hp.2.2.1
    have z18_b : z18 ≤ 940 := hp.2.2.2.1
    have z19_a : 0 ≤ z19 := hp.2.2.2.2.1
    have z19_b : z19 ≤ 5 := hp.2.2.2.2.2.1
    have fo20_h : wok T fo20 := hp.2.2.2.2.2.2.1
    have z23_a : (-2147483648) ≤ z23 := hp.2.2.2.2.2.2.2.1
    have z23_b : z23 ≤ 2147483647 := hp.2.2.2.2.2.2.2.2.1
    have pq24 : gC T (tkAt f7 x9 x10 z1) z19 z18 z17 fy21 fr22 z23 fo20 := hp.2.2.2.2.2.2.2.2.2
    have w : WD D A s.heap [(a0, .inr (9, [.ref a2, .ref a3, .ref a4, .ref a5, .ref a6, .ref a7, .ref a8, .ref a9, .ref a10, .int (iI x0), .int (iI x1), .int (iI x2), .int (iI x3), .int (iI x4), .int (iI x5), .int (iI x6), .int (iI x7), .int (iI x8)])), (a2, .inl (T 1, 9, .inr (.inl h0))), (a3, .inl (T 0, 9, .inl (cI f0))), (a4, .inl (T 0, 9, .inl (cI f1))), (a5, .inl (T 0, 9, .inl (cI f2))), (a6, .inl (T 0, 9, .inl (cI f3))), (a7, .inl (T 0, 9, .inl (cI f4))), (a8, .inl (T 0, 9, .inl (cI f5))), (a9, .inl (T 1, 3, .inr (.inl h1))), (a10, .inl (T 0, 3, .inl (cI f6))), (a1, .inr (8, [.ref a11, .int (iI x9), .int (iI x10), .int (iI z17), .int (iI z18), .int (iI z19), (va_rf fo20), .long fy21, .int fr22, .int (iI z23), .int (iI z10), .int (iI z11)])), (a11, .inl (T 0, 940, .inl (cI f7)))] H locs := w
    refine lv_aload_n hx hb dX9_readStreet_21 rfl (lv_at hl 1 rfl) ?_
    refine lv_aload_n hx hb dX9_readStreet_22 rfl (lv_at hl 2 rfl) ?_
    refine k_I (ce := 0) (sl := 0) (rest := []) (wr := []) (r_V (f := 2) [0, 10, 1, 2, 3, 4, 5, 6, 7, 8, 9, 11] M w V_HookedCity_Town_172 G743 G744 (c284_X9_personAt l D T _ a0 a1 a2 a3 a4 a5 a6 a7 a8 a9 a10 x0 x1 x2 x3 x4 x5 x6 x7 x8 a11 x9 x10 z17 z18 z19 fo20 fy21 fr22 z23 z10 z11 h0 f0 f1 f2 f3 f4 f5 h1 f6 f7 x0_a x0_b x1_a x1_b x2_a x2_b x3_a x3_b x4_a x4_b x5_a x5_b x6_a x6_b x7_a x7_b x8_a x8_b x9_a x9_b x10_a x10_b z17_a z17_b z18_a z18_b z19_a z19_b fo20_h z23_a z23_b z10_a z10_b z11_a z11_b f0_h f1_h f2_h f3_h f4_h f5_h f6_h f7_h) 0 clX9 rfl rfl (by decide) rfl hl.1 rfl (Nat.le_of_ble_eq_true rfl) dX9_readStreet_23 (by decide) (by decide) (by decide) (by decide)) w [0, 10, 1, 2, 3, 4, 5, 6, 7, 8, 9, 11] [] rfl rfl (by decide) (by decide) rfl rfl (fun v u H locs hp w => ?_)
    obtain ⟨z25, z26, z27⟩ := u
    have hv : iI z25 = v := hp.1
    subst hv
    have z25_a : (-1) ≤ z25 := hp.2.1
    have z25_b : z25 ≤ 8 := hp.2.2.1
    have z26_a : (-2147483648) ≤ z26 := hp.2.2.2.1
    have z26_b : z26 ≤ 2147483647 := hp.2.2.2.2.1
    have z27_a : 0 ≤ z27 := hp.2.2.2.2.2.1
    have z27_b : z27 ≤ 940 := hp.2.2.2.2.2.2.1
    have ee28 : 0 ≤ ((x0 - z25) - 1) := hp.2.2.2.2.2.2.2.1
    have pq29 : ∀ (x : Tk × Int × Int) (rd : Int → Int) (h : Nat → Int64) (o : Int → Int), gC T x z19 z18 z17 fy21 fr22 z23 fo20 → XW rd h o h0 f0 f1 f2 f3 f4 f5 h1 f6 x0 x1 x3 x4 x5 x6 x7 x8 → XV (sOne rd h x) z25 z26 z27 := hp.2.2.2.2.2.2.2.2.1
    have pq30 : ∀ x : Tk × Int × Int, gC T x z19 z18 z17 fy21 fr22 z23 fo20 → XV ((sNa h0 x0) x) z25 z26 z27 := hp.2.2.2.2.2.2.2.2.2.1
    have pq31 : kpF z25 z10 z26 := hp.2.2.2.2.2.2.2.2.2.2
    have w : WD D A s.heap [(a0, .inr (9, [.ref a2, .ref a3, .ref a4, .ref a5, .ref a6, .ref a7, .ref a8, .ref a9, .ref a10, .int (iI x0), .int (iI x1), .int (iI x2), .int (iI x3), .int (iI x4), .int (iI x5), .int (iI x6), .int (iI x7), .int (iI x8)])), (a1, .inr (8, [.ref a11, .int (iI x9), .int (iI x10), .int (iI z17), .int (iI z18), .int (iI z19), (va_rf fo20), .long fy21, .int fr22, .int (iI z23), .int (iI z26), .int (iI z27)])), (a2, .inl (T 1, 9, .inr (.inl h0))), (a3, .inl (T 0, 9, .inl (cI f0))), (a4, .inl (T 0, 9, .inl (cI f1))), (a5, .inl (T 0, 9, .inl (cI f2))), (a6, .inl (T 0, 9, .inl (cI f3))), (a7, .inl (T 0, 9, .inl (cI f4))), (a8, .inl (T 0, 9, .inl (cI f5))), (a9, .inl (T 1, 3, .inr (.inl h1))), (a10, .inl (T 0, 3, .inl (cI f6))), (a11, .inl (T 0, 940, .inl (cI f7)))] H locs := w
    refine lv_istore_n (lv' := [(3, .int (iI z25)), (2, .int (iI z9)), (0, .ref a0), (1, .ref a1)]) hx hb dX9_readStreet_26 rfl hl (by decide) rfl (fun ls hl => ?_)
    refine lv_iload_n hx hb dX9_readStreet_27 rfl (lv_at hl 0 rfl) ?_
    refine lv_iconst (v := iI (-1)) hx hb dX9_readStreet_28 (by decide +kernel) ?_
    refine lv_icmp_ne (tgt := 34) hx hb dX9_readStreet_29 (by decide) (fun c_32 => ?_) (fun c_32 => ?_)
    · replace c_32 : ¬ z25 = (-1) := fun h => c_32 ((iI_eq (Int.le_trans (by decide) z25_a) (Int.le_trans z25_b (by decide)) (by decide) (by decide)).mpr h)
      refine lv_iload_n hx hb dX9_readStreet_34 rfl (lv_at hl 1 rfl) ?_
      refine lv_iload_n hx hb dX9_readStreet_35 rfl (lv_at hl 0 rfl) ?_
      refine lv_icmp_eq (tgt := 52) hx hb dX9_readStreet_36 (by decide) (fun c_33 => ?_) (fun c_33 => ?_)
      · replace c_33 := (iI_eq (Int.le_trans (by decide) z9_a) (Int.le_trans z9_b (by decide)) (Int.le_trans (by decide) z25_a) (Int.le_trans z25_b (by decide))).mp c_33
        refine lv_aload_n hx hb dX9_readStreet_52 rfl (lv_at hl 3 rfl) ?_
        refine lv_iconst (v := iI 3) hx hb dX9_readStreet_53 (by decide +kernel) ?_
        refine k_I (ce := 0) (sl := 0) (rest := []) (wr := [(a0, .inr (9, [.ref a2, .ref a3, .ref a4, .ref a5, .ref a6, .ref a7, .ref a8, .ref a9, .ref a10, .int (iI x0), .int (iI x1), .int (iI x2), .int (iI x3), .int (iI x4), .int (iI x5), .int (iI x6), .int (iI x7), .int (iI x8)])), (a2, .inl (T 1, 9, .inr (.inl h0))), (a3, .inl (T 0, 9, .inl (cI f0))), (a4, .inl (T 0, 9, .inl (cI f1))), (a5, .inl (T 0, 9, .inl (cI f2))), (a6, .inl (T 0, 9, .inl (cI f3))), (a7, .inl (T 0, 9, .inl (cI f4))), (a8, .inl (T 0, 9, .inl (cI f5))), (a9, .inl (T 1, 3, .inr (.inl h1))), (a10, .inl (T 0, 3, .inl (cI f6))), (a11, .inl (T 0, 940, .inl (cI f7)))]) (r_V (f := 0) [1] M w V_HookedCity_Town_150 G710 G711 (c271_X8_fail l D T _ a1 3 a11 x9 x10 z17 z18 z19 fo20 fy21 fr22 z23 z26 z27 (by decide) (by decide) x9_a x9_b x10_a x10_b z17_a z17_b z18_a z18_b z19_a z19_b fo20_h z23_a z23_b z26_a z26_b z27_a z27_b) 1 clX8 rfl rfl (by decide) rfl hl.1 rfl (Nat.le_of_ble_eq_true rfl) dX9_readStreet_54 (by decide) (by decide) (by decide) (by decide)) w [1] [0, 2, 3, 4, 5, 6, 7, 8, 9, 10, 11] rfl rfl (by decide) (by decide) rfl rfl (fun v u H locs hp w => ?_)
        obtain ⟨z34, z35, z36⟩ := u
        have hv : iI z34 = v := hp.1
        subst hv
        have z34_a : 0 ≤ z34 := hp.2.1
        have z34_b : z34 ≤ 1 := hp.2.2.1
        have z35_a : (-2147483648) ≤ z35 := hp.2.2.2.1
        have z35_b : z35 ≤ 2147483647 := hp.2.2.2.2.1
        have z36_a : 0 ≤ z36 := hp.2.2.2.2.2.1
        have z36_b : z36 ≤ 940 := hp.2.2.2.2.2.2.1
        have pq37 : z35 = 3 := hp.2.2.2.2.2.2.2.1
        have pq38 : z36 = z18 := hp.2.2.2.2.2.2.2.2.1
        have w : WD D A s.heap [(a0, .inr (9, [.ref a2, .ref a3, .ref a4, .ref a5, .ref a6, .ref a7, .ref a8, .ref a9, .ref a10, .int (iI x0), .int (iI x1), .int (iI x2), .int (iI x3), .int (iI x4), .int (iI x5), .int (iI x6), .int (iI x7), .int (iI x8)])), (a2, .inl (T 1, 9, .inr (.inl h0))), (a3, .inl (T 0, 9, .inl (cI f0))), (a4, .inl (T 0, 9, .inl (cI f1))), (a5, .inl (T 0, 9, .inl (cI f2))), (a6, .inl (T 0, 9, .inl (cI f3))), (a7, .inl (T 0, 9, .inl (cI f4))), (a8, .inl (T 0, 9, .inl (cI f5))), (a9, .inl (T 1, 3, .inr (.inl h1))), (a10, .inl (T 0, 3, .inl (cI f6))), (a11, .inl (T 0, 940, .inl (cI f7))), (a1, .inr (8, [.ref a11, .int (iI x9), .int (iI x10), .int (iI z17), .int (iI z18), .int (iI z19), (va_rf fo20), .long fy21, .int fr22, .int (iI z23), .int (iI z35), .int (iI z36)]))] H locs := w
        rcases hp.2.2.2.2.2.2.2.2.2 with hr
        · subst hr
          exact ret _ (0, z17, z18, z19, fo20, fy21, fr22, z23, z35, z36, f3) _ _ _ _ _ [0, 11, 1, 2, 3, 4, 5, 6, 7, 8, 9, 10] dX9_readStreet_57 (by decide +kernel) ⟨rfl, (show (0 : Int) ≤ 0 from by decide), (show (0 : Int) ≤ 1 from by decide), z17_a, z17_b, z18_a, z18_b, z19_a, z19_b, fo20_h, z23_a, z23_b, z35_a, z35_b, z36_a, z36_b, f3_h, (show ∀ (x : Tk × Int × Int) (rd : Int → Int) (h : Nat → Int64) (o : Int → Int), gC T x x13 x12 x11 y0 r0 x14 o0 → XW rd h o h0 f0 f1 f2 f3 f4 f5 h1 f6 x0 x1 x3 x4 x5 x6 x7 x8 → XP (sStreet f7 x9 x10 x rd h o) 0 z35 z36 (fun y => gC T y z19 z18 z17 fy21 fr22 z23 fo20) (fun rd h o => XW rd h o h0 f0 f1 f2 f3 f4 f5 h1 f6 x0 x1 x3 x4 x5 x6 x7 x8) from (by intro x rd h o hx hw; have hw1 := hw.1; rw [sStreet]; have g1 := gC_nx hx pq8; have c1 := pq13 _ rd h o g1 hw; refine bxV_ok c1 (by omega) ?_; have g2 := gC_nx g1 pq24; have c2 := pq29 _ rd h o g2 hw; refine bxV_ok c2 (by omega) ?_; have v1 := (XV_nn c1 (by omega)).2; have v2 := (XV_nn c2 (by omega)).2; have s1 := (hw.2.2.2.1 z9 (by omega) (by omega)).1; have s2 := (hw.2.2.2.1 z25 (by omega) (by omega)).1; rw [if_pos (by omega)]; exact ⟨rfl, by omega, pq38.trans g2.1⟩)), (show kpB 0 x15 z35 from (fun e => absurd e (by decide)))⟩ w (by decide) rfl
      · replace c_33 : ¬ z9 = z25 := fun h => c_33 ((iI_eq (Int.le_trans (by decide) z9_a) (Int.le_trans z9_b (by decide)) (Int.le_trans (by decide) z25_a) (Int.le_trans z25_b (by decide))).mpr h)
        refine lv_aload_n hx hb dX9_readStreet_39 rfl (lv_at hl 2 rfl) ?_
        refine r_get (v := .ref a6) M w 0 4 clX9 rfl (by decide) G375 rfl rfl dX9_readStreet_40 ?_
        refine lv_iload_n hx hb dX9_readStreet_43 rfl (lv_at hl 1 rfl) ?_
        refine r_iald (v := iI (f3 z9)) M w 6 rfl (iI_in (by omega) (by omega) (by decide)) (cI_at (by omega) (by omega)) dX9_readStreet_44 ?_
        have hh39 : 0 ≤ (f3 z9) ∧ (f3 z9) ≤ 511 := f3_h z9
        refine lv_iload_n hx hb dX9_readStreet_45 rfl (lv_at hl 0 rfl) ?_
        refine r_ishr (v := _) M rfl dX9_readStreet_46 ?_
        refine b_anyx (fun z40 z40_a z40_b hz41 => ?_)
        refine lv_iconst (v := iI 1) hx hb dX9_readStreet_47 (by decide +kernel) ?_
        refine r_iand (v := _) M rfl dX9_readStreet_48 ?_
        refine b_rngx (lo := 0) (hi := 1) (iand_r (by omega) (by omega)) (fun z42 z42_a z42_b hz43 => ?_)
        refine lv_if_eq (tgt := 58) hx hb dX9_readStreet_49 (by decide) (fun c_44 => ?_) (fun c_44 => ?_)
        · replace c_44 := (iz_eq (Int.le_trans (by decide) z42_a) (Int.le_trans z42_b (by decide))).mp c_44
          refine lv_aload_n hx hb dX9_readStreet_58 rfl (lv_at hl 3 rfl) ?_
          refine k_V (ce := 0) (sl := 0) (rest := []) (wr := [(a0, .inr (9, [.ref a2, .ref a3, .ref a4, .ref a5, .ref a6, .ref a7, .ref a8, .ref a9, .ref a10, .int (iI x0), .int (iI x1), .int (iI x2), .int (iI x3), .int (iI x4), .int (iI x5), .int (iI x6), .int (iI x7), .int (iI x8)])), (a2, .inl (T 1, 9, .inr (.inl h0))), (a3, .inl (T 0, 9, .inl (cI f0))), (a4, .inl (T 0, 9, .inl (cI f1))), (a5, .inl (T 0, 9, .inl (cI f2))), (a6, .inl (T 0, 9, .inl (cI f3))), (a7, .inl (T 0, 9, .inl (cI f4))), (a8, .inl (T 0, 9, .inl (cI f5))), (a9, .inl (T 1, 3, .inr (.inl h1))), (a10, .inl (T 0, 3, .inl (cI f6)))]) (r_V (f := 4) [1, 11] M w V_HookedCity_Town_154 G587 G588 (c266_X8_step l D T _ a1 a11 x9 x10 z17 z18 z19 fo20 fy21 fr22 z23 z26 z27 f7 x9_a x9_b x10_a x10_b z17_a z17_b z18_a z18_b z19_a z19_b fo20_h z23_a z23_b z26_a z26_b z27_a z27_b f7_h) 1 clX8 rfl rfl (by decide) rfl hl.1 rfl (Nat.le_of_ble_eq_true rfl) dX9_readStreet_59 (by decide) (by decide) (by decide) (by decide)) w [1, 11] [0, 2, 3, 4, 5, 6, 7, 8, 9, 10] rfl rfl (by decide) (by decide) rfl rfl (fun u H locs hp w => ?_)
          obtain ⟨z45, z46, z47, fo48, fy49, fr50, z51⟩ := u
          have z45_a : 0 ≤ z45 := hp.1
          have z45_b : z45 ≤ 940 := hp.2.1
          have z46_a : 0 ≤ z46 := hp.2.2.1
          have z46_b : z46 ≤ 940 := hp.2.2.2.1
          have z47_a : 0 ≤ z47 := hp.2.2.2.2.1
          have z47_b : z47 ≤ 5 := hp.2.2.2.2.2.1
          have fo48_h : wok T fo48 := hp.2.2.2.2.2.2.1
          have z51_a : (-2147483648) ≤ z51 := hp.2.2.2.2.2.2.2.1
          have z51_b : z51 ≤ 2147483647 := hp.2.2.2.2.2.2.2.2.1
          have pq52 : gC T (tkAt f7 x9 x10 z17) z47 z46 z45 fy49 fr50 z51 fo48 := hp.2.2.2.2.2.2.2.2.2
          have w : WD D A s.heap [(a0, .inr (9, [.ref a2, .ref a3, .ref a4, .ref a5, .ref a6, .ref a7, .ref a8, .ref a9, .ref a10, .int (iI x0), .int (iI x1), .int (iI x2), .int (iI x3), .int (iI x4), .int (iI x5), .int (iI x6), .int (iI x7), .int (iI x8)])), (a2, .inl (T 1, 9, .inr (.inl h0))), (a3, .inl (T 0, 9, .inl (cI f0))), (a4, .inl (T 0, 9, .inl (cI f1))), (a5, .inl (T 0, 9, .inl (cI f2))), (a6, .inl (T 0, 9, .inl (cI f3))), (a7, .inl (T 0, 9, .inl (cI f4))), (a8, .inl (T 0, 9, .inl (cI f5))), (a9, .inl (T 1, 3, .inr (.inl h1))), (a10, .inl (T 0, 3, .inl (cI f6))), (a1, .inr (8, [.ref a11, .int (iI x9), .int (iI x10), .int (iI z45), .int (iI z46), .int (iI z47), (va_rf fo48), .long fy49, .int fr50, .int (iI z51), .int (iI z26), .int (iI z27)])), (a11, .inl (T 0, 940, .inl (cI f7)))] H locs := w
          refine lv_aload_n hx hb dX9_readStreet_62 rfl (lv_at hl 2 rfl) ?_
          refine r_get (v := .ref a6) M w 0 4 clX9 rfl (by decide) G375 rfl rfl dX9_readStreet_63 ?_
          refine lv_iload_n hx hb dX9_readStreet_66 rfl (lv_at hl 1 rfl) ?_
          refine lv_dup2_11 hx hb dX9_readStreet_67 rfl rfl ?_
          refine r_iald (v := iI (f3 z9)) M w 5 rfl (iI_in (by omega) (by omega) (by decide)) (cI_at (by omega) (by omega)) dX9_readStreet_68 ?_
          have hh53 : 0 ≤ (f3 z9) ∧ (f3 z9) ≤ 511 := f3_h z9
          refine lv_iconst (v := iI 1) hx hb dX9_readStreet_69 (by decide +kernel) ?_
          refine lv_iload_n hx hb dX9_readStreet_70 rfl (lv_at hl 0 rfl) ?_
          refine r_ishl (v := _) M rfl dX9_readStreet_71 ?_
          refine b_rngx (lo := 1) (hi := 256) (ishl_9 (by omega) (by omega)) (fun z54 z54_a z54_b hz55 => ?_)
          refine r_ior (v := _) M rfl dX9_readStreet_72 ?_
          refine b_rngx (lo := 0) (hi := 511) (ior_9 (by omega) (by omega) (by omega) (by omega)) (fun z56 z56_a z56_b hz57 => ?_)
          refine r_iast (ws' := [(a0, .inr (9, [.ref a2, .ref a3, .ref a4, .ref a5, .ref a6, .ref a7, .ref a8, .ref a9, .ref a10, .int (iI x0), .int (iI x1), .int (iI x2), .int (iI x3), .int (iI x4), .int (iI x5), .int (iI x6), .int (iI x7), .int (iI x8)])), (a2, .inl (T 1, 9, .inr (.inl h0))), (a3, .inl (T 0, 9, .inl (cI f0))), (a4, .inl (T 0, 9, .inl (cI f1))), (a5, .inl (T 0, 9, .inl (cI f2))), (a6, .inl (T 0, 9, .inl (cI (upz f3 z9 z56)))), (a7, .inl (T 0, 9, .inl (cI f4))), (a8, .inl (T 0, 9, .inl (cI f5))), (a9, .inl (T 1, 3, .inr (.inl h1))), (a10, .inl (T 0, 3, .inl (cI f6))), (a1, .inr (8, [.ref a11, .int (iI x9), .int (iI x10), .int (iI z45), .int (iI z46), .int (iI z47), (va_rf fo48), .long fy49, .int fr50, .int (iI z51), .int (iI z26), .int (iI z27)])), (a11, .inl (T 0, 940, .inl (cI f7)))]) M w 5 rfl (iI_in (by omega) (by omega) (by decide)) (by rw [cI_up (by omega) (by omega)]; rfl) dX9_readStreet_73 (fun H locs w => ?_)
          refine lv_aload_n hx hb dX9_readStreet_74 rfl (lv_at hl 2 rfl) ?_
          refine r_get (v := .ref a6) M w 0 4 clX9 rfl (by decide) G375 rfl rfl dX9_readStreet_75 ?_
          refine lv_iload_n hx hb dX9_readStreet_78 rfl (lv_at hl 0 rfl) ?_
          refine lv_dup2_11 hx hb dX9_readStreet_79 rfl rfl ?_
          refine r_iald (v := iI ((upz f3 z9 z56) z25)) M w 5 rfl (iI_in (by omega) (by omega) (by decide)) (cI_at (by omega) (by omega)) dX9_readStreet_80 ?_
          have hh58 : 0 ≤ ((upz f3 z9 z56) z25) ∧ ((upz f3 z9 z56) z25) ≤ 511 := (rng_up f3_h (by omega) (by omega)) z25
          refine lv_iconst (v := iI 1) hx hb dX9_readStreet_81 (by decide +kernel) ?_
          refine lv_iload_n hx hb dX9_readStreet_82 rfl (lv_at hl 1 rfl) ?_
          refine r_ishl (v := _) M rfl dX9_readStreet_83 ?_
          refine b_rngx (lo := 1) (hi := 256) (ishl_9 (by omega) (by omega)) (fun z59 z59_a z59_b hz60 => ?_)
          refine r_ior (v := _) M rfl dX9_readStreet_84 ?_
          refine b_rngx (lo := 0) (hi := 511) (ior_9 (by omega) (by omega) (by omega) (by omega)) (fun z61 z61_a z61_b hz62 => ?_)
          refine r_iast (ws' := [(a0, .inr (9, [.ref a2, .ref a3, .ref a4, .ref a5, .ref a6, .ref a7, .ref a8, .ref a9, .ref a10, .int (iI x0), .int (iI x1), .int (iI x2), .int (iI x3), .int (iI x4), .int (iI x5), .int (iI x6), .int (iI x7), .int (iI x8)])), (a2, .inl (T 1, 9, .inr (.inl h0))), (a3, .inl (T 0, 9, .inl (cI f0))), (a4, .inl (T 0, 9, .inl (cI f1))), (a5, .inl (T 0, 9, .inl (cI f2))), (a6, .inl (T 0, 9, .inl (cI (upz (upz f3 z9 z56) z25 z61)))), (a7, .inl (T 0, 9, .inl (cI f4))), (a8, .inl (T 0, 9, .inl (cI f5))), (a9, .inl (T 1, 3, .inr (.inl h1))), (a10, .inl (T 0, 3, .inl (cI f6))), (a1, .inr (8, [.ref a11, .int (iI x9), .int (iI x10), .int (iI z45), .int (iI z46), .int (iI z47), (va_rf fo48), .long fy49, .int fr50, .int (iI z51), .int (iI z26), .int (iI z27)])), (a11, .inl (T 0, 940, .inl (cI f7)))]) M w 5 rfl (iI_in (by omega) (by omega) (by decide)) (by rw [cI_up (by omega) (by omega)]; rfl) dX9_readStreet_85 (fun H locs w => ?_)
          refine lv_iconst (v := iI 1) hx hb dX9_readStreet_86 (by decide +kernel) ?_
          exact ret _ (1, z45, z46, z47, fo48, fy49, fr50, z51, z26, z27, (upz (upz f3 z9 z56) z25 z61)) _ _ _ _ _ [0, 10, 1, 2, 3, 4, 5, 6, 7, 8, 9, 11] dX9_readStreet_87 (by decide +kernel) ⟨rfl, (show (0 : Int) ≤ 1 from by decide), (show (1 : Int) ≤ 1 from by decide), z45_a, z45_b, z46_a, z46_b, z47_a, z47_b, fo48_h, z51_a, z51_b, z26_a, z26_b, z27_a, z27_b, (rng_up (rng_up f3_h (by omega) (by omega)) (by omega) (by omega)), (show ∀ (x : Tk × Int × Int) (rd : Int → Int) (h : Nat → Int64) (o : Int → Int), gC T x x13 x12 x11 y0 r0 x14 o0 → XW rd h o h0 f0 f1 f2 f3 f4 f5 h1 f6 x0 x1 x3 x4 x5 x6 x7 x8 → XP (sStreet f7 x9 x10 x rd h o) 1 z26 z27 (fun y => gC T y z47 z46 z45 fy49 fr50 z51 fo48) (fun rd h o => XW rd h o h0 f0 f1 f2 (upz (upz f3 z9 z56) z25 z61) f4 f5 h1 f6 x0 x1 x3 x4 x5 x6 x7 x8) from (by intro x rd h o hx hw; have hw1 := hw.1; rw [sStreet]; have g1 := gC_nx hx pq8; have c1 := pq13 _ rd h o g1 hw; refine bxV_ok c1 (by omega) ?_; have g2 := gC_nx g1 pq24; have c2 := pq29 _ rd h o g2 hw; refine bxV_ok c2 (by omega) ?_; have v1 := (XV_nn c1 (by omega)).2; have v2 := (XV_nn c2 (by omega)).2; have s1 := (hw.2.2.2.1 z9 (by omega) (by omega)).1; have s2 := (hw.2.2.2.1 z25 (by omega) (by omega)).1; have t1 := tb_r hz41 hz43; rw [s1] at t1; have g3 := gC_nx g2 pq52; rw [if_neg (by omega)]; have y1 := orb_r hz55 hz57; have y2 := orb_r hz60 hz62; rw [upz_o (by omega)] at y2; exact ⟨rfl, g3, xw_street hw (by omega) (by omega) (by omega) (by omega) (by omega) y1 y2⟩)), (show kpB 1 x15 z26 from (fun hr => by have y1 := pq15 (by omega); have y3 := pq31 (by omega); omega))⟩ w (by decide) rfl
        · replace c_44 : ¬ z42 = 0 := fun h => c_44 ((iz_eq (Int.le_trans (by decide) z42_a) (Int.le_trans z42_b (by decide))).mpr h)
          refine lv_aload_n hx hb dX9_readStreet_52 rfl (lv_at hl 3 rfl) ?_
          refine lv_iconst (v := iI 3) hx hb dX9_readStreet_53 (by decide +kernel) ?_
          refine k_I (ce := 0) (sl := 0) (rest := []) (wr := [(a0, .inr (9, [.ref a2, .ref a3, .ref a4, .ref a5, .ref a6, .ref a7, .ref a8, .ref a9, .ref a10, .int (iI x0), .int (iI x1), .int (iI x2), .int (iI x3), .int (iI x4), .int (iI x5), .int (iI x6), .int (iI x7), .int (iI x8)])), (a2, .inl (T 1, 9, .inr (.inl h0))), (a3, .inl (T 0, 9, .inl (cI f0))), (a4, .inl (T 0, 9, .inl (cI f1))), (a5, .inl (T 0, 9, .inl (cI f2))), (a6, .inl (T 0, 9, .inl (cI f3))), (a7, .inl (T 0, 9, .inl (cI f4))), (a8, .inl (T 0, 9, .inl (cI f5))), (a9, .inl (T 1, 3, .inr (.inl h1))), (a10, .inl (T 0, 3, .inl (cI f6))), (a11, .inl (T 0, 940, .inl (cI f7)))]) (r_V (f := 0) [1] M w V_HookedCity_Town_150 G710 G711 (c271_X8_fail l D T _ a1 3 a11 x9 x10 z17 z18 z19 fo20 fy21 fr22 z23 z26 z27 (by decide) (by decide) x9_a x9_b x10_a x10_b z17_a z17_b z18_a z18_b z19_a z19_b fo20_h z23_a z23_b z26_a z26_b z27_a z27_b) 1 clX8 rfl rfl (by decide) rfl hl.1 rfl (Nat.le_of_ble_eq_true rfl) dX9_readStreet_54 (by decide) (by decide) (by decide) (by decide)) w [1] [0, 2, 3, 4, 5, 6, 7, 8, 9, 10, 11] rfl rfl (by decide) (by decide) rfl rfl (fun v u H locs hp w => ?_)
          obtain ⟨z63, z64, z65⟩ := u
          have hv : iI z63 = v := hp.1
          subst hv
          have z63_a : 0 ≤ z63 := hp.2.1
          have z63_b : z63 ≤ 1 := hp.2.2.1
          have z64_a : (-2147483648) ≤ z64 := hp.2.2.2.1
          have z64_b : z64 ≤ 2147483647 := hp.2.2.2.2.1
          have z65_a : 0 ≤ z65 := hp.2.2.2.2.2.1
          have z65_b : z65 ≤ 940 := hp.2.2.2.2.2.2.1
          have pq66 : z64 = 3 := hp.2.2.2.2.2.2.2.1
          have pq67 : z65 = z18 := hp.2.2.2.2.2.2.2.2.1
          have w : WD D A s.heap [(a0, .inr (9, [.ref a2, .ref a3, .ref a4, .ref a5, .ref a6, .ref a7, .ref a8, .ref a9, .ref a10, .int (iI x0), .int (iI x1), .int (iI x2), .int (iI x3), .int (iI x4), .int (iI x5), .int (iI x6), .int (iI x7), .int (iI x8)])), (a2, .inl (T 1, 9, .inr (.inl h0))), (a3, .inl (T 0, 9, .inl (cI f0))), (a4, .inl (T 0, 9, .inl (cI f1))), (a5, .inl (T 0, 9, .inl (cI f2))), (a6, .inl (T 0, 9, .inl (cI f3))), (a7, .inl (T 0, 9, .inl (cI f4))), (a8, .inl (T 0, 9, .inl (cI f5))), (a9, .inl (T 1, 3, .inr (.inl h1))), (a10, .inl (T 0, 3, .inl (cI f6))), (a11, .inl (T 0, 940, .inl (cI f7))), (a1, .inr (8, [.ref a11, .int (iI x9), .int (iI x10), .int (iI z17), .int (iI z18), .int (iI z19), (va_rf fo20), .long fy21, .int fr22, .int (iI z23), .int (iI z64), .int (iI z65)]))] H locs := w
          rcases hp.2.2.2.2.2.2.2.2.2 with hr
          · subst hr
            exact ret _ (0, z17, z18, z19, fo20, fy21, fr22, z23, z64, z65, f3) _ _ _ _ _ [0, 11, 1, 2, 3, 4, 5, 6, 7, 8, 9, 10] dX9_readStreet_57 (by decide +kernel) ⟨rfl, (show (0 : Int) ≤ 0 from by decide), (show (0 : Int) ≤ 1 from by decide), z17_a, z17_b, z18_a, z18_b, z19_a, z19_b, fo20_h, z23_a, z23_b, z64_a, z64_b, z65_a, z65_b, f3_h, (show ∀ (x : Tk × Int × Int) (rd : Int → Int) (h : Nat → Int64) (o : Int → Int), gC T x x13 x12 x11 y0 r0 x14 o0 → XW rd h o h0 f0 f1 f2 f3 f4 f5 h1 f6 x0 x1 x3 x4 x5 x6 x7 x8 → XP (sStreet f7 x9 x10 x rd h o) 0 z64 z65 (fun y => gC T y z19 z18 z17 fy21 fr22 z23 fo20) (fun rd h o => XW rd h o h0 f0 f1 f2 f3 f4 f5 h1 f6 x0 x1 x3 x4 x5 x6 x7 x8) from (by intro x rd h o hx hw; have hw1 := hw.1; rw [sStreet]; have g1 := gC_nx hx pq8; have c1 := pq13 _ rd h o g1 hw; refine bxV_ok c1 (by omega) ?_; have g2 := gC_nx g1 pq24; have c2 := pq29 _ rd h o g2 hw; refine bxV_ok c2 (by omega) ?_; have v1 := (XV_nn c1 (by omega)).2; have v2 := (XV_nn c2 (by omega)).2; have s1 := (hw.2.2.2.1 z9 (by omega) (by omega)).1; have s2 := (hw.2.2.2.1 z25 (by omega) (by omega)).1; have t1 := tb_r hz41 hz43; rw [s1] at t1; rw [if_pos (by omega)]; exact ⟨rfl, by omega, pq67.trans g2.1⟩)), (show kpB 0 x15 z64 from (fun e => absurd e (by decide)))⟩ w (by decide) rfl
    · replace c_32 := (iI_eq (Int.le_trans (by decide) z25_a) (Int.le_trans z25_b (by decide)) (by decide) (by decide)).mp c_32
      refine lv_iconst (v := iI 0) hx hb dX9_readStreet_32 (by decide +kernel) ?_
      exact ret _ (0, z17, z18, z19, fo20, fy21, fr22, z23, z26, z27, f3) _ _ _ _ _ [0, 1, 2, 3, 4, 5, 6, 7, 8, 9, 10, 11] dX9_readStreet_33 (by decide +kernel) ⟨rfl, (show (0 : Int) ≤ 0 from by decide), (show (0 : Int) ≤ 1 from by decide), z17_a, z17_b, z18_a, z18_b, z19_a, z19_b, fo20_h, z23_a, z23_b, z26_a, z26_b, z27_a, z27_b, f3_h, (show ∀ (x : Tk × Int × Int) (rd : Int → Int) (h : Nat → Int64) (o : Int → Int), gC T x x13 x12 x11 y0 r0 x14 o0 → XW rd h o h0 f0 f1 f2 f3 f4 f5 h1 f6 x0 x1 x3 x4 x5 x6 x7 x8 → XP (sStreet f7 x9 x10 x rd h o) 0 z26 z27 (fun y => gC T y z19 z18 z17 fy21 fr22 z23 fo20) (fun rd h o => XW rd h o h0 f0 f1 f2 f3 f4 f5 h1 f6 x0 x1 x3 x4 x5 x6 x7 x8) from (by intro x rd h o hx hw; have hw1 := hw.1; rw [sStreet]; have g1 := gC_nx hx pq8; have c1 := pq13 _ rd h o g1 hw; refine bxV_ok c1 (by omega) ?_; have g2 := gC_nx g1 pq24; have c2 := pq29 _ rd h o g2 hw; exact bxV_bad c2 (by omega) rfl)), (show kpB 0 x15 z26 from (fun e => absurd e (by decide)))⟩ w (by decide) rfl
  · replace c_16 := (iI_eq (Int.le_trans (by decide) z9_a) (Int.le_trans z9_b (by decide)) (by decide) (by decide)).mp c_16
    refine lv_iconst (v := iI 0) hx hb dX9_readStreet_15 (by decide +kernel) ?_
    exact ret _ (0, z1, z2, z3, fo4, fy5, fr6, z7, z10, z11, f3) _ _ _ _ _ [0, 1, 2, 3, 4, 5, 6, 7, 8, 9, 10, 11] dX9_readStreet_16 (by decide +kernel) ⟨rfl, (show (0 : Int) ≤ 0 from by decide), (show (0 : Int) ≤ 1 from by decide), z1_a, z1_b, z2_a, z2_b, z3_a, z3_b, fo4_h, z7_a, z7_b, z10_a, z10_b, z11_a, z11_b, f3_h, (show ∀ (x : Tk × Int × Int) (rd : Int → Int) (h : Nat → Int64) (o : Int → Int), gC T x x13 x12 x11 y0 r0 x14 o0 → XW rd h o h0 f0 f1 f2 f3 f4 f5 h1 f6 x0 x1 x3 x4 x5 x6 x7 x8 → XP (sStreet f7 x9 x10 x rd h o) 0 z10 z11 (fun y => gC T y z3 z2 z1 fy5 fr6 z7 fo4) (fun rd h o => XW rd h o h0 f0 f1 f2 f3 f4 f5 h1 f6 x0 x1 x3 x4 x5 x6 x7 x8) from (by intro x rd h o hx hw; have hw1 := hw.1; rw [sStreet]; have g1 := gC_nx hx pq8; have c1 := pq13 _ rd h o g1 hw; exact bxV_bad c1 (by omega) rfl)), (show kpB 0 x15 z10 from (fun e => absurd e (by decide)))⟩ w (by decide) rfl
set_option maxRecDepth 100000 in
set_option maxHeartbeats 4000000 in
theorem c287_X9_placeOf (l : Launch) (D : va_G) (T : Nat → ClassId) (sz : Nat) (a0 : Nat) (x0 : Int) (y0 : Int64) (h0 : Nat → Int64) (x0_a : 0 ≤ x0) (x0_b : x0 ≤ 9) : Met l yX9_placeOf (Cond.code yX9_placeOf cX9_placeOf 5 (some .int) :: GW) (Rm 0 0 0) (cPre [.ref a0, .int (iI x0), .long y0] D T [(a0, .inl (T 1, 3, .inr (.inl h0)))] sz) (qI D [(a0, .inl (T 1, 3, .inr (.inl h0)))] sz (fun (v : Int32) (u : Int) => iI u = v ∧ (-1) ≤ u ∧ u ≤ 8 ∧ 0 ≤ ((x0 - u) - 1) ∧ (x0 ≤ 3 → u = FI h0 0 x0 y0)) (fun u => [(a0, .inl (T 1, 3, .inr (.inl h0)))])) 0 0 (va_A [(a0, .inl (T 1, 3, .inr (.inl h0)))] sz) := by
  refine e_I (by decide) (Nat.le_of_ble_eq_true rfl) ?_
  intro p e s m args below meth c A Q ls M hin w ret hl
  have hx := M.1.1
  have hb := M.1.2.1
  have hl : lv_has ls 5 [(0, .ref a0), (1, .int (iI x0)), (2, .long y0)] := hl
  refine lv_iconst (v := iI 0) hx hb dX9_placeOf_0 (by decide +kernel) ?_
  refine lv_istore (lv' := [(4, .int (iI 0)), (0, .ref a0), (1, .int (iI x0)), (2, .long y0)]) hx hb dX9_placeOf_1 hl (by decide) rfl (fun ls hl => ?_)
  have loop1 : ∀ (k1 : Nat) (z1 : Int) (H : Heap) (locs : List Loc) (ls : Array Slot), 0 ≤ z1 → z1 ≤ 9 → FI h0 0 x0 y0 = fiN h0 0 y0 (x0 - z1).toNat z1 → ((x0 - z1) : Int).toNat < k1 → WD D A s.heap [(a0, .inl (T 1, 3, .inr (.inl h0)))] H locs → lv_has ls 5 [(4, .int (iI z1)), (0, .ref a0), (1, .int (iI x0)), (2, .long y0)] → W p l e (Rm 0 0 0) s m args below meth c H locs 0 0 Q (F0 m 3 ls []) := by
    intro k1
    induction k1 with
    | zero => intro z1 H locs ls z1_a z1_b lq1_f hm; exact absurd hm (Nat.not_lt_zero _)
    | succ k1 ih1 =>
      intro z1 H locs ls z1_a z1_b lq1_f hm1 w hl
      refine lv_iload hx hb dX9_placeOf_3 (lv_at hl 0 rfl) ?_
      refine lv_iload_n hx hb dX9_placeOf_5 rfl (lv_at hl 2 rfl) ?_
      refine lv_icmp_ge (tgt := 34) hx hb dX9_placeOf_6 (by decide) (fun c_2 => ?_) (fun c_2 => ?_)
      · replace c_2 := (iI_le (Int.le_trans (by decide) x0_a) (Int.le_trans x0_b (by decide)) (Int.le_trans (by decide) z1_a) (Int.le_trans z1_b (by decide))).mp c_2
        refine lv_iconst (v := iI (-1)) hx hb dX9_placeOf_34 (by decide +kernel) ?_
        exact ret _ (-1) _ _ _ _ _ [0] dX9_placeOf_35 ⟨rfl, (show (-1) ≤ (-1) from by decide), (show ((-1) : Int) ≤ 8 from by decide), (show 0 ≤ ((x0 - (-1)) - 1) from by omega), (show x0 ≤ 3 → (-1) = FI h0 0 x0 y0 from (fun h9 => fi_end lq1_f (by omega)))⟩ w (by decide) rfl
      · replace c_2 : z1 < x0 := Int.not_le.mp (fun h => c_2 ((iI_le (Int.le_trans (by decide) x0_a) (Int.le_trans x0_b (by decide)) (Int.le_trans (by decide) z1_a) (Int.le_trans z1_b (by decide))).mpr h))
        refine lv_iload hx hb dX9_placeOf_9 (lv_at hl 0 rfl) ?_
        refine lv_aload_n hx hb dX9_placeOf_11 rfl (lv_at hl 1 rfl) ?_
        refine r_alen (v := iI 3) M w 0 1 rfl rfl (show Int32.ofNat 3 = iI 3 from by decide +kernel) dX9_placeOf_12 ?_
        refine lv_icmp_ge (tgt := 34) hx hb dX9_placeOf_13 (by decide) (fun c_3 => ?_) (fun c_3 => ?_)
        · replace c_3 := (iI_le (by decide) (by decide) (Int.le_trans (by decide) z1_a) (Int.le_trans z1_b (by decide))).mp c_3
          refine lv_iconst (v := iI (-1)) hx hb dX9_placeOf_34 (by decide +kernel) ?_
          exact ret _ (-1) _ _ _ _ _ [0] dX9_placeOf_35 ⟨rfl, (show (-1) ≤ (-1) from by decide), (show ((-1) : Int) ≤ 8 from by decide), (show 0 ≤ ((x0 - (-1)) - 1) from by omega), (show x0 ≤ 3 → (-1) = FI h0 0 x0 y0 from (fun h9 => fi_end lq1_f (by omega)))⟩ w (by decide) rfl
        · replace c_3 : z1 < 3 := Int.not_le.mp (fun h => c_3 ((iI_le (by decide) (by decide) (Int.le_trans (by decide) z1_a) (Int.le_trans z1_b (by decide))).mpr h))
          refine lv_aload_n hx hb dX9_placeOf_16 rfl (lv_at hl 1 rfl) ?_
          refine lv_iload hx hb dX9_placeOf_17 (lv_at hl 0 rfl) ?_
          refine r_lald (v := (h0 (Int32.toNatClampNeg (iI z1)))) M w 0 rfl (iI_in (by omega) (by omega) (by decide)) rfl dX9_placeOf_19 ?_
          refine lv_lload_n hx hb dX9_placeOf_20 rfl (lv_at hl 3 rfl) ?_
          refine r_lcmp (v := lg_cmp (h0 (Int32.toNatClampNeg (iI z1))) y0) M rfl dX9_placeOf_21 ?_
          refine lv_if_ne (tgt := 28) hx hb dX9_placeOf_22 (by decide) (fun c_4 => ?_) (fun c_4 => ?_)
          · refine lv_iinc (v := iI (z1 + 1)) (lv' := [(4, .int (iI (z1 + 1))), (0, .ref a0), (1, .int (iI x0)), (2, .long y0)]) hx hb dX9_placeOf_28 hl (k := 0) rfl (ii_inc (by decide +kernel)) (by decide) rfl (fun ls hl => ?_)
            refine lv_goto (tgt := 3) hx hb dX9_placeOf_31 (by decide) ?_
            exact ih1 (z1 + 1) _ _ _ (by omega) (by omega) (fi_no0 lq1_f (by omega) c_4) (by omega) w (lv_sub hl [0, 1, 2, 3] rfl)
          · refine lv_iload hx hb dX9_placeOf_25 (lv_at hl 0 rfl) ?_
            exact ret _ z1 _ _ _ _ _ [0] dX9_placeOf_27 ⟨rfl, (show (-1) ≤ z1 from by omega), (show z1 ≤ 8 from by omega), (show 0 ≤ ((x0 - z1) - 1) from by omega), (show x0 ≤ 3 → z1 = FI h0 0 x0 y0 from (fun _ => fi_hit0 lq1_f (by omega) c_4))⟩ w (by decide) rfl
  exact loop1 (((x0 - 0) : Int).toNat + 1) 0 _ _ _ (by decide) (by decide) fi_0 (Nat.lt_succ_self _) w (lv_sub hl [0, 1, 2, 3] rfl)
set_option maxRecDepth 100000 in
set_option maxHeartbeats 4000000 in
theorem c288_X9_newNameAt (l : Launch) (D : va_G) (T : Nat → ClassId) (sz : Nat) (a0 : Nat) (a1 : Nat) (a2 : Nat) (a3 : Nat) (a4 : Nat) (a5 : Nat) (a6 : Nat) (a7 : Nat) (a8 : Nat) (a9 : Nat) (a10 : Nat) (x0 : Int) (x1 : Int) (x2 : Int) (x3 : Int) (x4 : Int) (x5 : Int) (x6 : Int) (x7 : Int) (x8 : Int) (a11 : Nat) (x9 : Int) (x10 : Int) (x11 : Int) (x12 : Int) (x13 : Int) (o0 : Option Nat) (y0 : Int64) (r0 : Int32) (x14 : Int) (x15 : Int) (x16 : Int) (h0 : Nat → Int64) (f0 : Int → Int) (f1 : Int → Int) (f2 : Int → Int) (f3 : Int → Int) (f4 : Int → Int) (f5 : Int → Int) (h1 : Nat → Int64) (f6 : Int → Int) (f7 : Int → Int) (x0_a : 0 ≤ x0) (x0_b : x0 ≤ 9) (x1_a : 0 ≤ x1) (x1_b : x1 ≤ 3) (x2_a : 0 ≤ x2) (x2_b : x2 ≤ 900) (x3_a : (-2147483648) ≤ x3) (x3_b : x3 ≤ 2147483647) (x4_a : (-2147483648) ≤ x4) (x4_b : x4 ≤ 2147483647) (x5_a : (-2147483648) ≤ x5) (x5_b : x5 ≤ 2147483647) (x6_a : 0 ≤ x6) (x6_b : x6 ≤ 1) (x7_a : 0 ≤ x7) (x7_b : x7 ≤ 1) (x8_a : 0 ≤ x8) (x8_b : x8 ≤ 1) (x9_a : 0 ≤ x9) (x9_b : x9 ≤ 940) (x10_a : 0 ≤ x10) (x10_b : x10 ≤ 940) (x11_a : 0 ≤ x11) (x11_b : x11 ≤ 940) (x12_a : 0 ≤ x12) (x12_b : x12 ≤ 940) (x13_a : 0 ≤ x13) (x13_b : x13 ≤ 5) (o0_h : wok T o0) (x14_a : (-2147483648) ≤ x14) (x14_b : x14 ≤ 2147483647) (x15_a : (-2147483648) ≤ x15) (x15_b : x15 ≤ 2147483647) (x16_a : 0 ≤ x16) (x16_b : x16 ≤ 940) (f0_h : rng (-2147483648) 2147483647 f0) (f1_h : rng (-2147483648) 2147483647 f1) (f2_h : rng (-2147483648) 2147483647 f2) (f3_h : rng 0 511 f3) (f4_h : rng (-1) 8 f4) (f5_h : rng (-1) 8 f5) (f6_h : rng (-2147483648) 2147483647 f6) (f7_h : rng 0 255 f7) : Met l yX9_newNameAt (Cond.code yX9_newNameAt cX9_newNameAt 2 (some .boolean) :: GW) (Rm 1 0 0) (cPre [.ref a0, .ref a1] D T [(a0, .inr (9, [.ref a2, .ref a3, .ref a4, .ref a5, .ref a6, .ref a7, .ref a8, .ref a9, .ref a10, .int (iI x0), .int (iI x1), .int (iI x2), .int (iI x3), .int (iI x4), .int (iI x5), .int (iI x6), .int (iI x7), .int (iI x8)])), (a1, .inr (8, [.ref a11, .int (iI x9), .int (iI x10), .int (iI x11), .int (iI x12), .int (iI x13), (va_rf o0), .long y0, .int r0, .int (iI x14), .int (iI x15), .int (iI x16)])), (a2, .inl (T 1, 9, .inr (.inl h0))), (a3, .inl (T 0, 9, .inl (cI f0))), (a4, .inl (T 0, 9, .inl (cI f1))), (a5, .inl (T 0, 9, .inl (cI f2))), (a6, .inl (T 0, 9, .inl (cI f3))), (a7, .inl (T 0, 9, .inl (cI f4))), (a8, .inl (T 0, 9, .inl (cI f5))), (a9, .inl (T 1, 3, .inr (.inl h1))), (a10, .inl (T 0, 3, .inl (cI f6))), (a11, .inl (T 0, 940, .inl (cI f7)))] sz) (qI D [(a0, .inr (9, [.ref a2, .ref a3, .ref a4, .ref a5, .ref a6, .ref a7, .ref a8, .ref a9, .ref a10, .int (iI x0), .int (iI x1), .int (iI x2), .int (iI x3), .int (iI x4), .int (iI x5), .int (iI x6), .int (iI x7), .int (iI x8)])), (a1, .inr (8, [.ref a11, .int (iI x9), .int (iI x10), .int (iI x11), .int (iI x12), .int (iI x13), (va_rf o0), .long y0, .int r0, .int (iI x14), .int (iI x15), .int (iI x16)])), (a2, .inl (T 1, 9, .inr (.inl h0))), (a3, .inl (T 0, 9, .inl (cI f0))), (a4, .inl (T 0, 9, .inl (cI f1))), (a5, .inl (T 0, 9, .inl (cI f2))), (a6, .inl (T 0, 9, .inl (cI f3))), (a7, .inl (T 0, 9, .inl (cI f4))), (a8, .inl (T 0, 9, .inl (cI f5))), (a9, .inl (T 1, 3, .inr (.inl h1))), (a10, .inl (T 0, 3, .inl (cI f6))), (a11, .inl (T 0, 940, .inl (cI f7)))] sz (fun (v : Int32) (u : Int × Int × Int) => iI u.1 = v ∧ 0 ≤ u.1 ∧ u.1 ≤ 1 ∧ (-2147483648) ≤ u.2.1 ∧ u.2.1 ≤ 2147483647 ∧ 0 ≤ u.2.2 ∧ u.2.2 ≤ 940 ∧ (∀ (x : Tk × Int × Int) (rd : Int → Int) (h : Nat → Int64) (o : Int → Int), gC T x x13 x12 x11 y0 r0 x14 o0 → XW rd h o h0 f0 f1 f2 f3 f4 f5 h1 f6 x0 x1 x3 x4 x5 x6 x7 x8 → RC (sChk rd h x) u.1 u.2.1 u.2.2) ∧ (kpB u.1 x15 u.2.1)) (fun u => [(a0, .inr (9, [.ref a2, .ref a3, .ref a4, .ref a5, .ref a6, .ref a7, .ref a8, .ref a9, .ref a10, .int (iI x0), .int (iI x1), .int (iI x2), .int (iI x3), .int (iI x4), .int (iI x5), .int (iI x6), .int (iI x7), .int (iI x8)])), (a1, .inr (8, [.ref a11, .int (iI x9), .int (iI x10), .int (iI x11), .int (iI x12), .int (iI x13), (va_rf o0), .long y0, .int r0, .int (iI x14), .int (iI u.2.1), .int (iI u.2.2)])), (a2, .inl (T 1, 9, .inr (.inl h0))), (a3, .inl (T 0, 9, .inl (cI f0))), (a4, .inl (T 0, 9, .inl (cI f1))), (a5, .inl (T 0, 9, .inl (cI f2))), (a6, .inl (T 0, 9, .inl (cI f3))), (a7, .inl (T 0, 9, .inl (cI f4))), (a8, .inl (T 0, 9, .inl (cI f5))), (a9, .inl (T 1, 3, .inr (.inl h1))), (a10, .inl (T 0, 3, .inl (cI f6))), (a11, .inl (T 0, 940, .inl (cI f7)))])) 0 0 (va_A [(a0, .inr (9, [.ref a2, .ref a3, .ref a4, .ref a5, .ref a6, .ref a7, .ref a8, .ref a9, .ref a10, .int (iI x0), .int (iI x1), .int (iI x2), .int (iI x3), .int (iI x4), .int (iI x5), .int (iI x6), .int (iI x7), .int (iI x8)])), (a1, .inr (8, [.ref a11, .int (iI x9), .int (iI x10), .int (iI x11), .int (iI x12), .int (iI x13), (va_rf o0), .long y0, .int r0, .int (iI x14), .int (iI x15), .int (iI x16)])), (a2, .inl (T 1, 9, .inr (.inl h0))), (a3, .inl (T 0, 9, .inl (cI f0))), (a4, .inl (T 0, 9, .inl (cI f1))), (a5, .inl (T 0, 9, .inl (cI f2))), (a6, .inl (T 0, 9, .inl (cI f3))), (a7, .inl (T 0, 9, .inl (cI f4))), (a8, .inl (T 0, 9, .inl (cI f5))), (a9, .inl (T 1, 3, .inr (.inl h1))), (a10, .inl (T 0, 3, .inl (cI f6))), (a11, .inl (T 0, 940, .inl (cI f7)))] sz) := by
  refine e_Z (by decide) (Nat.le_of_ble_eq_true rfl) ?_
  intro p e s m args below meth c A Q ls M hin w ret hl
  have hx := M.1.1
  have hb := M.1.2.1
  have hl : lv_has ls 2 [(0, .ref a0), (1, .ref a1)] := hl
  refine lv_aload_n hx hb dX9_newNameAt_0 rfl (lv_at hl 1 rfl) ?_
  refine r_getN (v := .int (iI x13)) M w 1 5 clX8 rfl (by decide) N169 rfl rfl dX9_newNameAt_1 ?_
  refine lv_iconst (v := iI 3) hx hb dX9_newNameAt_4 (by decide +kernel) ?_
  refine lv_icmp_eq (tgt := 14) hx hb dX9_newNameAt_5 (by decide) (fun c_1 => ?_) (fun c_1 => ?_)
  · replace c_1 := (iI_eq (Int.le_trans (by decide) x13_a) (Int.le_trans x13_b (by decide)) (by decide) (by decide)).mp c_1
    refine lv_aload_n hx hb dX9_newNameAt_14 rfl (lv_at hl 0 rfl) ?_
    refine r_get (v := .ref a2) M w 0 0 clX9 rfl (by decide) G366 rfl rfl dX9_newNameAt_15 ?_
    refine lv_aload_n hx hb dX9_newNameAt_18 rfl (lv_at hl 0 rfl) ?_
    refine r_get (v := .int (iI x0)) M w 0 9 clX9 rfl (by decide) G387 rfl rfl dX9_newNameAt_19 ?_
    refine lv_aload_n hx hb dX9_newNameAt_22 rfl (lv_at hl 1 rfl) ?_
    refine r_getN (v := .long y0) M w 1 7 clX8 rfl (by decide) N175 rfl rfl dX9_newNameAt_23 ?_
    refine k_I (ce := 0) (sl := 0) (rest := []) (wr := [(a0, .inr (9, [.ref a2, .ref a3, .ref a4, .ref a5, .ref a6, .ref a7, .ref a8, .ref a9, .ref a10, .int (iI x0), .int (iI x1), .int (iI x2), .int (iI x3), .int (iI x4), .int (iI x5), .int (iI x6), .int (iI x7), .int (iI x8)])), (a1, .inr (8, [.ref a11, .int (iI x9), .int (iI x10), .int (iI x11), .int (iI x12), .int (iI x13), (va_rf o0), .long y0, .int r0, .int (iI x14), .int (iI x15), .int (iI x16)])), (a3, .inl (T 0, 9, .inl (cI f0))), (a4, .inl (T 0, 9, .inl (cI f1))), (a5, .inl (T 0, 9, .inl (cI f2))), (a6, .inl (T 0, 9, .inl (cI f3))), (a7, .inl (T 0, 9, .inl (cI f4))), (a8, .inl (T 0, 9, .inl (cI f5))), (a9, .inl (T 1, 3, .inr (.inl h1))), (a10, .inl (T 0, 3, .inl (cI f6))), (a11, .inl (T 0, 940, .inl (cI f7)))]) (r_S (f := 0) [2] M w V_HookedCity_Town_182 G719 (c282_X9_placeOf l D T _ a2 x0 y0 h0 x0_a x0_b) rfl (by decide) rfl hl.1 rfl (Nat.le_of_ble_eq_true rfl) dX9_newNameAt_26 (by decide) (by decide) (by decide) (by decide)) w [2] [0, 1, 3, 4, 5, 6, 7, 8, 9, 10, 11] rfl rfl (by decide) (by decide) rfl rfl (fun v z2 H locs hp w => ?_)
    have hv : iI z2 = v := hp.1
    subst hv
    have z2_a : (-1) ≤ z2 := hp.2.1
    have z2_b : z2 ≤ 8 := hp.2.2.1
    have ee3 : 0 ≤ ((x0 - z2) - 1) := hp.2.2.2.1
    have pq4 : x0 ≤ 9 → z2 = FI h0 0 x0 y0 := hp.2.2.2.2
    have w : WD D A s.heap [(a0, .inr (9, [.ref a2, .ref a3, .ref a4, .ref a5, .ref a6, .ref a7, .ref a8, .ref a9, .ref a10, .int (iI x0), .int (iI x1), .int (iI x2), .int (iI x3), .int (iI x4), .int (iI x5), .int (iI x6), .int (iI x7), .int (iI x8)])), (a1, .inr (8, [.ref a11, .int (iI x9), .int (iI x10), .int (iI x11), .int (iI x12), .int (iI x13), (va_rf o0), .long y0, .int r0, .int (iI x14), .int (iI x15), .int (iI x16)])), (a3, .inl (T 0, 9, .inl (cI f0))), (a4, .inl (T 0, 9, .inl (cI f1))), (a5, .inl (T 0, 9, .inl (cI f2))), (a6, .inl (T 0, 9, .inl (cI f3))), (a7, .inl (T 0, 9, .inl (cI f4))), (a8, .inl (T 0, 9, .inl (cI f5))), (a9, .inl (T 1, 3, .inr (.inl h1))), (a10, .inl (T 0, 3, .inl (cI f6))), (a11, .inl (T 0, 940, .inl (cI f7))), (a2, .inl (T 1, 9, .inr (.inl h0)))] H locs := w
    refine lv_iconst (v := iI (-1)) hx hb dX9_newNameAt_29 (by decide +kernel) ?_
    refine lv_icmp_ne (tgt := 52) hx hb dX9_newNameAt_30 (by decide) (fun c_5 => ?_) (fun c_5 => ?_)
    · replace c_5 : ¬ z2 = (-1) := fun h => c_5 ((iI_eq (Int.le_trans (by decide) z2_a) (Int.le_trans z2_b (by decide)) (by decide) (by decide)).mpr h)
      refine lv_aload_n hx hb dX9_newNameAt_52 rfl (lv_at hl 1 rfl) ?_
      refine lv_iconst (v := iI 3) hx hb dX9_newNameAt_53 (by decide +kernel) ?_
      refine k_I (ce := 0) (sl := 0) (rest := []) (wr := [(a0, .inr (9, [.ref a2, .ref a3, .ref a4, .ref a5, .ref a6, .ref a7, .ref a8, .ref a9, .ref a10, .int (iI x0), .int (iI x1), .int (iI x2), .int (iI x3), .int (iI x4), .int (iI x5), .int (iI x6), .int (iI x7), .int (iI x8)])), (a3, .inl (T 0, 9, .inl (cI f0))), (a4, .inl (T 0, 9, .inl (cI f1))), (a5, .inl (T 0, 9, .inl (cI f2))), (a6, .inl (T 0, 9, .inl (cI f3))), (a7, .inl (T 0, 9, .inl (cI f4))), (a8, .inl (T 0, 9, .inl (cI f5))), (a9, .inl (T 1, 3, .inr (.inl h1))), (a10, .inl (T 0, 3, .inl (cI f6))), (a11, .inl (T 0, 940, .inl (cI f7))), (a2, .inl (T 1, 9, .inr (.inl h0)))]) (r_V (f := 0) [1] M w V_HookedCity_Town_150 G710 G711 (c271_X8_fail l D T _ a1 3 a11 x9 x10 x11 x12 x13 o0 y0 r0 x14 x15 x16 (by decide) (by decide) x9_a x9_b x10_a x10_b x11_a x11_b x12_a x12_b x13_a x13_b o0_h x14_a x14_b x15_a x15_b x16_a x16_b) 1 clX8 rfl rfl (by decide) rfl hl.1 rfl (Nat.le_of_ble_eq_true rfl) dX9_newNameAt_54 (by decide) (by decide) (by decide) (by decide)) w [1] [0, 2, 3, 4, 5, 6, 7, 8, 9, 10, 11] rfl rfl (by decide) (by decide) rfl rfl (fun v u H locs hp w => ?_)
      obtain ⟨z6, z7, z8⟩ := u
      have hv : iI z6 = v := hp.1
      subst hv
      have z6_a : 0 ≤ z6 := hp.2.1
      have z6_b : z6 ≤ 1 := hp.2.2.1
      have z7_a : (-2147483648) ≤ z7 := hp.2.2.2.1
      have z7_b : z7 ≤ 2147483647 := hp.2.2.2.2.1
      have z8_a : 0 ≤ z8 := hp.2.2.2.2.2.1
      have z8_b : z8 ≤ 940 := hp.2.2.2.2.2.2.1
      have pq9 : z7 = 3 := hp.2.2.2.2.2.2.2.1
      have pq10 : z8 = x12 := hp.2.2.2.2.2.2.2.2.1
      have w : WD D A s.heap [(a0, .inr (9, [.ref a2, .ref a3, .ref a4, .ref a5, .ref a6, .ref a7, .ref a8, .ref a9, .ref a10, .int (iI x0), .int (iI x1), .int (iI x2), .int (iI x3), .int (iI x4), .int (iI x5), .int (iI x6), .int (iI x7), .int (iI x8)])), (a3, .inl (T 0, 9, .inl (cI f0))), (a4, .inl (T 0, 9, .inl (cI f1))), (a5, .inl (T 0, 9, .inl (cI f2))), (a6, .inl (T 0, 9, .inl (cI f3))), (a7, .inl (T 0, 9, .inl (cI f4))), (a8, .inl (T 0, 9, .inl (cI f5))), (a9, .inl (T 1, 3, .inr (.inl h1))), (a10, .inl (T 0, 3, .inl (cI f6))), (a11, .inl (T 0, 940, .inl (cI f7))), (a2, .inl (T 1, 9, .inr (.inl h0))), (a1, .inr (8, [.ref a11, .int (iI x9), .int (iI x10), .int (iI x11), .int (iI x12), .int (iI x13), (va_rf o0), .long y0, .int r0, .int (iI x14), .int (iI z7), .int (iI z8)]))] H locs := w
      rcases hp.2.2.2.2.2.2.2.2.2 with hr
      · subst hr
        exact ret _ (0, z7, z8) _ _ _ _ _ [0, 11, 10, 1, 2, 3, 4, 5, 6, 7, 8, 9] dX9_newNameAt_57 (by decide +kernel) ⟨rfl, (show (0 : Int) ≤ 0 from by decide), (show (0 : Int) ≤ 1 from by decide), z7_a, z7_b, z8_a, z8_b, (show ∀ (x : Tk × Int × Int) (rd : Int → Int) (h : Nat → Int64) (o : Int → Int), gC T x x13 x12 x11 y0 r0 x14 o0 → XW rd h o h0 f0 f1 f2 f3 f4 f5 h1 f6 x0 x1 x3 x4 x5 x6 x7 x8 → RC (sChk rd h x) 0 z7 z8 from (by have e0 := pq4 (by omega); exact cnew_B (by omega) (by omega) (by omega) pq10)), (show kpB 0 x15 z7 from (fun e => absurd e (by decide)))⟩ w (by decide) rfl
    · replace c_5 := (iI_eq (Int.le_trans (by decide) z2_a) (Int.le_trans z2_b (by decide)) (by decide) (by decide)).mp c_5
      refine lv_aload_n hx hb dX9_newNameAt_33 rfl (lv_at hl 0 rfl) ?_
      refine r_get (v := .ref a9) M w 0 7 clX9 rfl (by decide) G383 rfl rfl dX9_newNameAt_34 ?_
      refine lv_aload_n hx hb dX9_newNameAt_37 rfl (lv_at hl 0 rfl) ?_
      refine r_get (v := .int (iI x1)) M w 0 10 clX9 rfl (by decide) G393 rfl rfl dX9_newNameAt_38 ?_
      refine lv_aload_n hx hb dX9_newNameAt_41 rfl (lv_at hl 1 rfl) ?_
      refine r_getN (v := .long y0) M w 1 7 clX8 rfl (by decide) N175 rfl rfl dX9_newNameAt_42 ?_
      refine k_I (ce := 0) (sl := 0) (rest := []) (wr := [(a0, .inr (9, [.ref a2, .ref a3, .ref a4, .ref a5, .ref a6, .ref a7, .ref a8, .ref a9, .ref a10, .int (iI x0), .int (iI x1), .int (iI x2), .int (iI x3), .int (iI x4), .int (iI x5), .int (iI x6), .int (iI x7), .int (iI x8)])), (a1, .inr (8, [.ref a11, .int (iI x9), .int (iI x10), .int (iI x11), .int (iI x12), .int (iI x13), (va_rf o0), .long y0, .int r0, .int (iI x14), .int (iI x15), .int (iI x16)])), (a3, .inl (T 0, 9, .inl (cI f0))), (a4, .inl (T 0, 9, .inl (cI f1))), (a5, .inl (T 0, 9, .inl (cI f2))), (a6, .inl (T 0, 9, .inl (cI f3))), (a7, .inl (T 0, 9, .inl (cI f4))), (a8, .inl (T 0, 9, .inl (cI f5))), (a10, .inl (T 0, 3, .inl (cI f6))), (a11, .inl (T 0, 940, .inl (cI f7))), (a2, .inl (T 1, 9, .inr (.inl h0)))]) (r_S (f := 0) [8] M w V_HookedCity_Town_182 G719 (c287_X9_placeOf l D T _ a9 x1 y0 h1 (by omega) (by omega)) rfl (by decide) rfl hl.1 rfl (Nat.le_of_ble_eq_true rfl) dX9_newNameAt_45 (by decide) (by decide) (by decide) (by decide)) w [8] [0, 1, 2, 3, 4, 5, 6, 7, 9, 10, 11] rfl rfl (by decide) (by decide) rfl rfl (fun v z11 H locs hp w => ?_)
      have hv : iI z11 = v := hp.1
      subst hv
      have z11_a : (-1) ≤ z11 := hp.2.1
      have z11_b : z11 ≤ 8 := hp.2.2.1
      have ee12 : 0 ≤ ((x1 - z11) - 1) := hp.2.2.2.1
      have pq13 : x1 ≤ 3 → z11 = FI h1 0 x1 y0 := hp.2.2.2.2
      have w : WD D A s.heap [(a0, .inr (9, [.ref a2, .ref a3, .ref a4, .ref a5, .ref a6, .ref a7, .ref a8, .ref a9, .ref a10, .int (iI x0), .int (iI x1), .int (iI x2), .int (iI x3), .int (iI x4), .int (iI x5), .int (iI x6), .int (iI x7), .int (iI x8)])), (a1, .inr (8, [.ref a11, .int (iI x9), .int (iI x10), .int (iI x11), .int (iI x12), .int (iI x13), (va_rf o0), .long y0, .int r0, .int (iI x14), .int (iI x15), .int (iI x16)])), (a3, .inl (T 0, 9, .inl (cI f0))), (a4, .inl (T 0, 9, .inl (cI f1))), (a5, .inl (T 0, 9, .inl (cI f2))), (a6, .inl (T 0, 9, .inl (cI f3))), (a7, .inl (T 0, 9, .inl (cI f4))), (a8, .inl (T 0, 9, .inl (cI f5))), (a10, .inl (T 0, 3, .inl (cI f6))), (a11, .inl (T 0, 940, .inl (cI f7))), (a2, .inl (T 1, 9, .inr (.inl h0))), (a9, .inl (T 1, 3, .inr (.inl h1)))] H locs := w
      refine lv_iconst (v := iI (-1)) hx hb dX9_newNameAt_48 (by decide +kernel) ?_
      refine lv_icmp_eq (tgt := 58) hx hb dX9_newNameAt_49 (by decide) (fun c_14 => ?_) (fun c_14 => ?_)
      · replace c_14 := (iI_eq (Int.le_trans (by decide) z11_a) (Int.le_trans z11_b (by decide)) (by decide) (by decide)).mp c_14
        refine lv_iconst (v := iI 1) hx hb dX9_newNameAt_58 (by decide +kernel) ?_
        exact ret _ (1, x15, x16) _ _ _ _ _ [0, 1, 10, 2, 3, 4, 5, 6, 7, 11, 8, 9] dX9_newNameAt_59 (by decide +kernel) ⟨rfl, (show (0 : Int) ≤ 1 from by decide), (show (1 : Int) ≤ 1 from by decide), x15_a, x15_b, x16_a, x16_b, (show ∀ (x : Tk × Int × Int) (rd : Int → Int) (h : Nat → Int64) (o : Int → Int), gC T x x13 x12 x11 y0 r0 x14 o0 → XW rd h o h0 f0 f1 f2 f3 f4 f5 h1 f6 x0 x1 x3 x4 x5 x6 x7 x8 → RC (sChk rd h x) 1 x15 x16 from (by have e0 := pq4 (by omega); have e1 := pq13 (by omega); exact cnew_D (by omega) ⟨by omega, by omega⟩)), (show kpB 1 x15 x15 from (fun hr => by omega))⟩ w (by decide) rfl
      · replace c_14 : ¬ z11 = (-1) := fun h => c_14 ((iI_eq (Int.le_trans (by decide) z11_a) (Int.le_trans z11_b (by decide)) (by decide) (by decide)).mpr h)
        refine lv_aload_n hx hb dX9_newNameAt_52 rfl (lv_at hl 1 rfl) ?_
        refine lv_iconst (v := iI 3) hx hb dX9_newNameAt_53 (by decide +kernel) ?_
        refine k_I (ce := 0) (sl := 0) (rest := []) (wr := [(a0, .inr (9, [.ref a2, .ref a3, .ref a4, .ref a5, .ref a6, .ref a7, .ref a8, .ref a9, .ref a10, .int (iI x0), .int (iI x1), .int (iI x2), .int (iI x3), .int (iI x4), .int (iI x5), .int (iI x6), .int (iI x7), .int (iI x8)])), (a3, .inl (T 0, 9, .inl (cI f0))), (a4, .inl (T 0, 9, .inl (cI f1))), (a5, .inl (T 0, 9, .inl (cI f2))), (a6, .inl (T 0, 9, .inl (cI f3))), (a7, .inl (T 0, 9, .inl (cI f4))), (a8, .inl (T 0, 9, .inl (cI f5))), (a10, .inl (T 0, 3, .inl (cI f6))), (a11, .inl (T 0, 940, .inl (cI f7))), (a2, .inl (T 1, 9, .inr (.inl h0))), (a9, .inl (T 1, 3, .inr (.inl h1)))]) (r_V (f := 0) [1] M w V_HookedCity_Town_150 G710 G711 (c271_X8_fail l D T _ a1 3 a11 x9 x10 x11 x12 x13 o0 y0 r0 x14 x15 x16 (by decide) (by decide) x9_a x9_b x10_a x10_b x11_a x11_b x12_a x12_b x13_a x13_b o0_h x14_a x14_b x15_a x15_b x16_a x16_b) 1 clX8 rfl rfl (by decide) rfl hl.1 rfl (Nat.le_of_ble_eq_true rfl) dX9_newNameAt_54 (by decide) (by decide) (by decide) (by decide)) w [1] [0, 2, 3, 4, 5, 6, 7, 8, 9, 10, 11] rfl rfl (by decide) (by decide) rfl rfl (fun v u H locs hp w => ?_)
        obtain ⟨z15, z16, z17⟩ := u
        have hv : iI z15 = v := hp.1
        subst hv
        have z15_a : 0 ≤ z15 := hp.2.1
        have z15_b : z15 ≤ 1 := hp.2.2.1
        have z16_a : (-2147483648) ≤ z16 := hp.2.2.2.1
        have z16_b : z16 ≤ 2147483647 := hp.2.2.2.2.1
        have z17_a : 0 ≤ z17 := hp.2.2.2.2.2.1
        have z17_b : z17 ≤ 940 := hp.2.2.2.2.2.2.1
        have pq18 : z16 = 3 := hp.2.2.2.2.2.2.2.1
        have pq19 : z17 = x12 := hp.2.2.2.2.2.2.2.2.1
        have w : WD D A s.heap [(a0, .inr (9, [.ref a2, .ref a3, .ref a4, .ref a5, .ref a6, .ref a7, .ref a8, .ref a9, .ref a10, .int (iI x0), .int (iI x1), .int (iI x2), .int (iI x3), .int (iI x4), .int (iI x5), .int (iI x6), .int (iI x7), .int (iI x8)])), (a3, .inl (T 0, 9, .inl (cI f0))), (a4, .inl (T 0, 9, .inl (cI f1))), (a5, .inl (T 0, 9, .inl (cI f2))), (a6, .inl (T 0, 9, .inl (cI f3))), (a7, .inl (T 0, 9, .inl (cI f4))), (a8, .inl (T 0, 9, .inl (cI f5))), (a10, .inl (T 0, 3, .inl (cI f6))), (a11, .inl (T 0, 940, .inl (cI f7))), (a2, .inl (T 1, 9, .inr (.inl h0))), (a9, .inl (T 1, 3, .inr (.inl h1))), (a1, .inr (8, [.ref a11, .int (iI x9), .int (iI x10), .int (iI x11), .int (iI x12), .int (iI x13), (va_rf o0), .long y0, .int r0, .int (iI x14), .int (iI z16), .int (iI z17)]))] H locs := w
        rcases hp.2.2.2.2.2.2.2.2.2 with hr
        · subst hr
          exact ret _ (0, z16, z17) _ _ _ _ _ [0, 11, 9, 1, 2, 3, 4, 5, 6, 10, 7, 8] dX9_newNameAt_57 (by decide +kernel) ⟨rfl, (show (0 : Int) ≤ 0 from by decide), (show (0 : Int) ≤ 1 from by decide), z16_a, z16_b, z17_a, z17_b, (show ∀ (x : Tk × Int × Int) (rd : Int → Int) (h : Nat → Int64) (o : Int → Int), gC T x x13 x12 x11 y0 r0 x14 o0 → XW rd h o h0 f0 f1 f2 f3 f4 f5 h1 f6 x0 x1 x3 x4 x5 x6 x7 x8 → RC (sChk rd h x) 0 z16 z17 from (by have e0 := pq4 (by omega); have e1 := pq13 (by omega); exact cnew_B (by omega) (by omega) (by omega) pq19)), (show kpB 0 x15 z16 from (fun e => absurd e (by decide)))⟩ w (by decide) rfl
  · replace c_1 : ¬ x13 = 3 := fun h => c_1 ((iI_eq (Int.le_trans (by decide) x13_a) (Int.le_trans x13_b (by decide)) (by decide) (by decide)).mpr h)
    refine lv_aload_n hx hb dX9_newNameAt_8 rfl (lv_at hl 1 rfl) ?_
    refine lv_iconst (v := iI 1) hx hb dX9_newNameAt_9 (by decide +kernel) ?_
    refine k_I (ce := 0) (sl := 0) (rest := []) (wr := [(a0, .inr (9, [.ref a2, .ref a3, .ref a4, .ref a5, .ref a6, .ref a7, .ref a8, .ref a9, .ref a10, .int (iI x0), .int (iI x1), .int (iI x2), .int (iI x3), .int (iI x4), .int (iI x5), .int (iI x6), .int (iI x7), .int (iI x8)])), (a2, .inl (T 1, 9, .inr (.inl h0))), (a3, .inl (T 0, 9, .inl (cI f0))), (a4, .inl (T 0, 9, .inl (cI f1))), (a5, .inl (T 0, 9, .inl (cI f2))), (a6, .inl (T 0, 9, .inl (cI f3))), (a7, .inl (T 0, 9, .inl (cI f4))), (a8, .inl (T 0, 9, .inl (cI f5))), (a9, .inl (T 1, 3, .inr (.inl h1))), (a10, .inl (T 0, 3, .inl (cI f6))), (a11, .inl (T 0, 940, .inl (cI f7)))]) (r_V (f := 0) [1] M w V_HookedCity_Town_150 G710 G711 (c271_X8_fail l D T _ a1 1 a11 x9 x10 x11 x12 x13 o0 y0 r0 x14 x15 x16 (by decide) (by decide) x9_a x9_b x10_a x10_b x11_a x11_b x12_a x12_b x13_a x13_b o0_h x14_a x14_b x15_a x15_b x16_a x16_b) 1 clX8 rfl rfl (by decide) rfl hl.1 rfl (Nat.le_of_ble_eq_true rfl) dX9_newNameAt_10 (by decide) (by decide) (by decide) (by decide)) w [1] [0, 2, 3, 4, 5, 6, 7, 8, 9, 10, 11] rfl rfl (by decide) (by decide) rfl rfl (fun v u H locs hp w => ?_)
    obtain ⟨z20, z21, z22⟩ := u
    have hv : iI z20 = v := hp.1
    subst hv
    have z20_a : 0 ≤ z20 := hp.2.1
    have z20_b : z20 ≤ 1 := hp.2.2.1
    have z21_a : (-2147483648) ≤ z21 := hp.2.2.2.1
    have z21_b : z21 ≤ 2147483647 := hp.2.2.2.2.1
    have z22_a : 0 ≤ z22 := hp.2.2.2.2.2.1
    have z22_b : z22 ≤ 940 := hp.2.2.2.2.2.2.1
    have pq23 : z21 = 1 := hp.2.2.2.2.2.2.2.1
    have pq24 : z22 = x12 := hp.2.2.2.2.2.2.2.2.1
    have w : WD D A s.heap [(a0, .inr (9, [.ref a2, .ref a3, .ref a4, .ref a5, .ref a6, .ref a7, .ref a8, .ref a9, .ref a10, .int (iI x0), .int (iI x1), .int (iI x2), .int (iI x3), .int (iI x4), .int (iI x5), .int (iI x6), .int (iI x7), .int (iI x8)])), (a2, .inl (T 1, 9, .inr (.inl h0))), (a3, .inl (T 0, 9, .inl (cI f0))), (a4, .inl (T 0, 9, .inl (cI f1))), (a5, .inl (T 0, 9, .inl (cI f2))), (a6, .inl (T 0, 9, .inl (cI f3))), (a7, .inl (T 0, 9, .inl (cI f4))), (a8, .inl (T 0, 9, .inl (cI f5))), (a9, .inl (T 1, 3, .inr (.inl h1))), (a10, .inl (T 0, 3, .inl (cI f6))), (a11, .inl (T 0, 940, .inl (cI f7))), (a1, .inr (8, [.ref a11, .int (iI x9), .int (iI x10), .int (iI x11), .int (iI x12), .int (iI x13), (va_rf o0), .long y0, .int r0, .int (iI x14), .int (iI z21), .int (iI z22)]))] H locs := w
    rcases hp.2.2.2.2.2.2.2.2.2 with hr
    · subst hr
      exact ret _ (0, z21, z22) _ _ _ _ _ [0, 11, 1, 2, 3, 4, 5, 6, 7, 8, 9, 10] dX9_newNameAt_13 (by decide +kernel) ⟨rfl, (show (0 : Int) ≤ 0 from by decide), (show (0 : Int) ≤ 1 from by decide), z21_a, z21_b, z22_a, z22_b, (show ∀ (x : Tk × Int × Int) (rd : Int → Int) (h : Nat → Int64) (o : Int → Int), gC T x x13 x12 x11 y0 r0 x14 o0 → XW rd h o h0 f0 f1 f2 f3 f4 f5 h1 f6 x0 x1 x3 x4 x5 x6 x7 x8 → RC (sChk rd h x) 0 z21 z22 from (cnew_A (by omega) (by omega) pq24)), (show kpB 0 x15 z21 from (fun e => absurd e (by decide)))⟩ w (by decide) rfl
set_option maxRecDepth 100000 in
set_option maxHeartbeats 4000000 in
theorem c289_X9_readMaid (l : Launch) (D : va_G) (T : Nat → ClassId) (sz : Nat) (a0 : Nat) (a1 : Nat) (a2 : Nat) (a3 : Nat) (a4 : Nat) (a5 : Nat) (a6 : Nat) (a7 : Nat) (a8 : Nat) (a9 : Nat) (a10 : Nat) (x0 : Int) (x1 : Int) (x2 : Int) (x3 : Int) (x4 : Int) (x5 : Int) (x6 : Int) (x7 : Int) (x8 : Int) (a11 : Nat) (x9 : Int) (x10 : Int) (x11 : Int) (x12 : Int) (x13 : Int) (o0 : Option Nat) (y0 : Int64) (r0 : Int32) (x14 : Int) (x15 : Int) (x16 : Int) (h0 : Nat → Int64) (f0 : Int → Int) (f1 : Int → Int) (f2 : Int → Int) (f3 : Int → Int) (f4 : Int → Int) (f5 : Int → Int) (h1 : Nat → Int64) (f6 : Int → Int) (f7 : Int → Int) (x0_a : 0 ≤ x0) (x0_b : x0 ≤ 9) (x1_a : 0 ≤ x1) (x1_b : x1 ≤ 3) (x2_a : 0 ≤ x2) (x2_b : x2 ≤ 900) (x3_a : (-2147483648) ≤ x3) (x3_b : x3 ≤ 2147483647) (x4_a : (-2147483648) ≤ x4) (x4_b : x4 ≤ 2147483647) (x5_a : (-2147483648) ≤ x5) (x5_b : x5 ≤ 2147483647) (x6_a : 0 ≤ x6) (x6_b : x6 ≤ 1) (x7_a : 0 ≤ x7) (x7_b : x7 ≤ 1) (x8_a : 0 ≤ x8) (x8_b : x8 ≤ 1) (x9_a : 0 ≤ x9) (x9_b : x9 ≤ 940) (x10_a : 0 ≤ x10) (x10_b : x10 ≤ 940) (x11_a : 0 ≤ x11) (x11_b : x11 ≤ 940) (x12_a : 0 ≤ x12) (x12_b : x12 ≤ 940) (x13_a : 0 ≤ x13) (x13_b : x13 ≤ 5) (o0_h : wok T o0) (x14_a : (-2147483648) ≤ x14) (x14_b : x14 ≤ 2147483647) (x15_a : (-2147483648) ≤ x15) (x15_b : x15 ≤ 2147483647) (x16_a : 0 ≤ x16) (x16_b : x16 ≤ 940) (f0_h : rng (-2147483648) 2147483647 f0) (f1_h : rng (-2147483648) 2147483647 f1) (f2_h : rng (-2147483648) 2147483647 f2) (f3_h : rng 0 511 f3) (f4_h : rng (-1) 8 f4) (f5_h : rng (-1) 8 f5) (f6_h : rng (-2147483648) 2147483647 f6) (f7_h : rng 0 255 f7) : Met l yX9_readMaid (Cond.code yX9_readMaid cX9_readMaid 2 (some .boolean) :: GW) (Rm 5 0 0) (cPre [.ref a0, .ref a1] D T [(a0, .inr (9, [.ref a2, .ref a3, .ref a4, .ref a5, .ref a6, .ref a7, .ref a8, .ref a9, .ref a10, .int (iI x0), .int (iI x1), .int (iI x2), .int (iI x3), .int (iI x4), .int (iI x5), .int (iI x6), .int (iI x7), .int (iI x8)])), (a1, .inr (8, [.ref a11, .int (iI x9), .int (iI x10), .int (iI x11), .int (iI x12), .int (iI x13), (va_rf o0), .long y0, .int r0, .int (iI x14), .int (iI x15), .int (iI x16)])), (a2, .inl (T 1, 9, .inr (.inl h0))), (a3, .inl (T 0, 9, .inl (cI f0))), (a4, .inl (T 0, 9, .inl (cI f1))), (a5, .inl (T 0, 9, .inl (cI f2))), (a6, .inl (T 0, 9, .inl (cI f3))), (a7, .inl (T 0, 9, .inl (cI f4))), (a8, .inl (T 0, 9, .inl (cI f5))), (a9, .inl (T 1, 3, .inr (.inl h1))), (a10, .inl (T 0, 3, .inl (cI f6))), (a11, .inl (T 0, 940, .inl (cI f7)))] sz) (qI D [(a0, .inr (9, [.ref a2, .ref a3, .ref a4, .ref a5, .ref a6, .ref a7, .ref a8, .ref a9, .ref a10, .int (iI x0), .int (iI x1), .int (iI x2), .int (iI x3), .int (iI x4), .int (iI x5), .int (iI x6), .int (iI x7), .int (iI x8)])), (a1, .inr (8, [.ref a11, .int (iI x9), .int (iI x10), .int (iI x11), .int (iI x12), .int (iI x13), (va_rf o0), .long y0, .int r0, .int (iI x14), .int (iI x15), .int (iI x16)])), (a2, .inl (T 1, 9, .inr (.inl h0))), (a3, .inl (T 0, 9, .inl (cI f0))), (a4, .inl (T 0, 9, .inl (cI f1))), (a5, .inl (T 0, 9, .inl (cI f2))), (a6, .inl (T 0, 9, .inl (cI f3))), (a7, .inl (T 0, 9, .inl (cI f4))), (a8, .inl (T 0, 9, .inl (cI f5))), (a9, .inl (T 1, 3, .inr (.inl h1))), (a10, .inl (T 0, 3, .inl (cI f6))), (a11, .inl (T 0, 940, .inl (cI f7)))] sz (fun (v : Int32) (u : Int × Int × Int × Int × Int × Option Nat × Int64 × Int32 × Int × Int × Int × (Nat → Int64) × (Int → Int)) => iI u.1 = v ∧ 0 ≤ u.1 ∧ u.1 ≤ 1 ∧ 0 ≤ u.2.1 ∧ u.2.1 ≤ 3 ∧ 0 ≤ u.2.2.1 ∧ u.2.2.1 ≤ 940 ∧ 0 ≤ u.2.2.2.1 ∧ u.2.2.2.1 ≤ 940 ∧ 0 ≤ u.2.2.2.2.1 ∧ u.2.2.2.2.1 ≤ 5 ∧ wok T u.2.2.2.2.2.1 ∧ (-2147483648) ≤ u.2.2.2.2.2.2.2.2.1 ∧ u.2.2.2.2.2.2.2.2.1 ≤ 2147483647 ∧ (-2147483648) ≤ u.2.2.2.2.2.2.2.2.2.1 ∧ u.2.2.2.2.2.2.2.2.2.1 ≤ 2147483647 ∧ 0 ≤ u.2.2.2.2.2.2.2.2.2.2.1 ∧ u.2.2.2.2.2.2.2.2.2.2.1 ≤ 940 ∧ rng (-2147483648) 2147483647 u.2.2.2.2.2.2.2.2.2.2.2.2 ∧ (∀ (x : Tk × Int × Int) (rd : Int → Int) (h : Nat → Int64) (o : Int → Int), gC T x x13 x12 x11 y0 r0 x14 o0 → XW rd h o h0 f0 f1 f2 f3 f4 f5 h1 f6 x0 x1 x3 x4 x5 x6 x7 x8 → XP (sMaid f7 x9 x10 x rd h o) u.1 u.2.2.2.2.2.2.2.2.2.1 u.2.2.2.2.2.2.2.2.2.2.1 (fun y => gC T y u.2.2.2.2.1 u.2.2.2.1 u.2.2.1 u.2.2.2.2.2.2.1 u.2.2.2.2.2.2.2.1 u.2.2.2.2.2.2.2.2.1 u.2.2.2.2.2.1) (fun rd h o => XW rd h o h0 f0 f1 f2 f3 f4 f5 u.2.2.2.2.2.2.2.2.2.2.2.1 u.2.2.2.2.2.2.2.2.2.2.2.2 x0 u.2.1 x3 x4 x5 x6 x7 x8)) ∧ (kpB u.1 x15 u.2.2.2.2.2.2.2.2.2.1)) (fun u => [(a0, .inr (9, [.ref a2, .ref a3, .ref a4, .ref a5, .ref a6, .ref a7, .ref a8, .ref a9, .ref a10, .int (iI x0), .int (iI u.2.1), .int (iI x2), .int (iI x3), .int (iI x4), .int (iI x5), .int (iI x6), .int (iI x7), .int (iI x8)])), (a1, .inr (8, [.ref a11, .int (iI x9), .int (iI x10), .int (iI u.2.2.1), .int (iI u.2.2.2.1), .int (iI u.2.2.2.2.1), (va_rf u.2.2.2.2.2.1), .long u.2.2.2.2.2.2.1, .int u.2.2.2.2.2.2.2.1, .int (iI u.2.2.2.2.2.2.2.2.1), .int (iI u.2.2.2.2.2.2.2.2.2.1), .int (iI u.2.2.2.2.2.2.2.2.2.2.1)])), (a2, .inl (T 1, 9, .inr (.inl h0))), (a3, .inl (T 0, 9, .inl (cI f0))), (a4, .inl (T 0, 9, .inl (cI f1))), (a5, .inl (T 0, 9, .inl (cI f2))), (a6, .inl (T 0, 9, .inl (cI f3))), (a7, .inl (T 0, 9, .inl (cI f4))), (a8, .inl (T 0, 9, .inl (cI f5))), (a9, .inl (T 1, 3, .inr (.inl u.2.2.2.2.2.2.2.2.2.2.2.1))), (a10, .inl (T 0, 3, .inl (cI u.2.2.2.2.2.2.2.2.2.2.2.2))), (a11, .inl (T 0, 940, .inl (cI f7)))])) 0 0 (va_A [(a0, .inr (9, [.ref a2, .ref a3, .ref a4, .ref a5, .ref a6, .ref a7, .ref a8, .ref a9, .ref a10, .int (iI x0), .int (iI x1), .int (iI x2), .int (iI x3), .int (iI x4), .int (iI x5), .int (iI x6), .int (iI x7), .int (iI x8)])), (a1, .inr (8, [.ref a11, .int (iI x9), .int (iI x10), .int (iI x11), .int (iI x12), .int (iI x13), (va_rf o0), .long y0, .int r0, .int (iI x14), .int (iI x15), .int (iI x16)])), (a2, .inl (T 1, 9, .inr (.inl h0))), (a3, .inl (T 0, 9, .inl (cI f0))), (a4, .inl (T 0, 9, .inl (cI f1))), (a5, .inl (T 0, 9, .inl (cI f2))), (a6, .inl (T 0, 9, .inl (cI f3))), (a7, .inl (T 0, 9, .inl (cI f4))), (a8, .inl (T 0, 9, .inl (cI f5))), (a9, .inl (T 1, 3, .inr (.inl h1))), (a10, .inl (T 0, 3, .inl (cI f6))), (a11, .inl (T 0, 940, .inl (cI f7)))] sz) := by
  refine e_Z (by decide) (Nat.le_of_ble_eq_true rfl) ?_
  intro p e s m args below meth c A Q ls M hin w ret hl
  have hx := M.1.1
  have hb := M.1.2.1
  have hl : lv_has ls 2 [(0, .ref a0), (1, .ref a1)] := hl
  refine lv_aload_n hx hb dX9_readMaid_0 rfl (lv_at hl 0 rfl) ?_
  refine r_get (v := .int (iI x1)) M w 0 10 clX9 rfl (by decide) G393 rfl rfl dX9_readMaid_1 ?_
  refine lv_iconst (v := iI 3) hx hb dX9_readMaid_4 (by decide +kernel) ?_
  refine lv_icmp_lt (tgt := 14) hx hb dX9_readMaid_5 (by decide) (fun c_1 => ?_) (fun c_1 => ?_)
  · replace c_1 := (iI_lt (Int.le_trans (by decide) x1_a) (Int.le_trans x1_b (by decide)) (by decide) (by decide)).mp c_1
    refine lv_aload_n hx hb dX9_readMaid_14 rfl (lv_at hl 1 rfl) ?_
    refine k_V (ce := 0) (sl := 0) (rest := []) (wr := [(a0, .inr (9, [.ref a2, .ref a3, .ref a4, .ref a5, .ref a6, .ref a7, .ref a8, .ref a9, .ref a10, .int (iI x0), .int (iI x1), .int (iI x2), .int (iI x3), .int (iI x4), .int (iI x5), .int (iI x6), .int (iI x7), .int (iI x8)])), (a2, .inl (T 1, 9, .inr (.inl h0))), (a3, .inl (T 0, 9, .inl (cI f0))), (a4, .inl (T 0, 9, .inl (cI f1))), (a5, .inl (T 0, 9, .inl (cI f2))), (a6, .inl (T 0, 9, .inl (cI f3))), (a7, .inl (T 0, 9, .inl (cI f4))), (a8, .inl (T 0, 9, .inl (cI f5))), (a9, .inl (T 1, 3, .inr (.inl h1))), (a10, .inl (T 0, 3, .inl (cI f6)))]) (r_V (f := 4) [1, 11] M w V_HookedCity_Town_154 G587 G588 (c266_X8_step l D T _ a1 a11 x9 x10 x11 x12 x13 o0 y0 r0 x14 x15 x16 f7 x9_a x9_b x10_a x10_b x11_a x11_b x12_a x12_b x13_a x13_b o0_h x14_a x14_b x15_a x15_b x16_a x16_b f7_h) 1 clX8 rfl rfl (by decide) rfl hl.1 rfl (Nat.le_of_ble_eq_true rfl) dX9_readMaid_15 (by decide) (by decide) (by decide) (by decide)) w [1, 11] [0, 2, 3, 4, 5, 6, 7, 8, 9, 10] rfl rfl (by decide) (by decide) rfl rfl (fun u H locs hp w => ?_)
    obtain ⟨z2, z3, z4, fo5, fy6, fr7, z8⟩ := u
    have z2_a : 0 ≤ z2 := hp.1
    have z2_b : z2 ≤ 940 := hp.2.1
    have z3_a : 0 ≤ z3 := hp.2.2.1
    have z3_b : z3 ≤ 940 := hp.2.2.2.1
    have z4_a : 0 ≤ z4 := hp.2.2.2.2.1
    have z4_b : z4 ≤ 5 := hp.2.2.2.2.2.1
    have fo5_h : wok T fo5 := hp.2.2.2.2.2.2.1
    have z8_a : (-2147483648) ≤ z8 := hp.2.2.2.2.2.2.2.1
    have z8_b : z8 ≤ 2147483647 := hp.2.2.2.2.2.2.2.2.1
    have pq9 : gC T (tkAt f7 x9 x10 x11) z4 z3 z2 fy6 fr7 z8 fo5 := hp.2.2.2.2.2.2.2.2.2
    have w : WD D A s.heap [(a0, .inr (9, [.ref a2, .ref a3, .ref a4, .ref a5, .ref a6, .ref a7, .ref a8, .ref a9, .ref a10, .int (iI x0), .int (iI x1), .int (iI x2), .int (iI x3), .int (iI x4), .int (iI x5), .int (iI x6), .int (iI x7), .int (iI x8)])), (a2, .inl (T 1, 9, .inr (.inl h0))), (a3, .inl (T 0, 9, .inl (cI f0))), (a4, .inl (T 0, 9, .inl (cI f1))), (a5, .inl (T 0, 9, .inl (cI f2))), (a6, .inl (T 0, 9, .inl (cI f3))), (a7, .inl (T 0, 9, .inl (cI f4))), (a8, .inl (T 0, 9, .inl (cI f5))), (a9, .inl (T 1, 3, .inr (.inl h1))), (a10, .inl (T 0, 3, .inl (cI f6))), (a1, .inr (8, [.ref a11, .int (iI x9), .int (iI x10), .int (iI z2), .int (iI z3), .int (iI z4), (va_rf fo5), .long fy6, .int fr7, .int (iI z8), .int (iI x15), .int (iI x16)])), (a11, .inl (T 0, 940, .inl (cI f7)))] H locs := w
    refine lv_aload_n hx hb dX9_readMaid_18 rfl (lv_at hl 0 rfl) ?_
    refine lv_aload_n hx hb dX9_readMaid_19 rfl (lv_at hl 1 rfl) ?_
    refine k_I (ce := 0) (sl := 0) (rest := []) (wr := []) (r_V (f := 1) [0, 10, 1, 2, 3, 4, 5, 6, 7, 8, 9, 11] M w V_HookedCity_Town_157 G716 G5 (c288_X9_newNameAt l D T _ a0 a1 a2 a3 a4 a5 a6 a7 a8 a9 a10 x0 x1 x2 x3 x4 x5 x6 x7 x8 a11 x9 x10 z2 z3 z4 fo5 fy6 fr7 z8 x15 x16 h0 f0 f1 f2 f3 f4 f5 h1 f6 f7 x0_a x0_b x1_a x1_b x2_a x2_b x3_a x3_b x4_a x4_b x5_a x5_b x6_a x6_b x7_a x7_b x8_a x8_b x9_a x9_b x10_a x10_b z2_a z2_b z3_a z3_b z4_a z4_b fo5_h z8_a z8_b x15_a x15_b x16_a x16_b f0_h f1_h f2_h f3_h f4_h f5_h f6_h f7_h) 0 clX9 rfl rfl (by decide) rfl hl.1 rfl (Nat.le_of_ble_eq_true rfl) dX9_readMaid_20 (by decide) (by decide) (by decide) (by decide)) w [0, 10, 1, 2, 3, 4, 5, 6, 7, 8, 9, 11] [] rfl rfl (by decide) (by decide) rfl rfl (fun v u H locs hp w => ?_)
    obtain ⟨z10, z11, z12⟩ := u
    have hv : iI z10 = v := hp.1
    subst hv
    have z10_a : 0 ≤ z10 := hp.2.1
    have z10_b : z10 ≤ 1 := hp.2.2.1
    have z11_a : (-2147483648) ≤ z11 := hp.2.2.2.1
    have z11_b : z11 ≤ 2147483647 := hp.2.2.2.2.1
    have z12_a : 0 ≤ z12 := hp.2.2.2.2.2.1
    have z12_b : z12 ≤ 940 := hp.2.2.2.2.2.2.1
    have pq13 : ∀ (x : Tk × Int × Int) (rd : Int → Int) (h : Nat → Int64) (o : Int → Int), gC T x z4 z3 z2 fy6 fr7 z8 fo5 → XW rd h o h0 f0 f1 f2 f3 f4 f5 h1 f6 x0 x1 x3 x4 x5 x6 x7 x8 → RC (sChk rd h x) z10 z11 z12 := hp.2.2.2.2.2.2.2.1
    have pq14 : kpB z10 x15 z11 := hp.2.2.2.2.2.2.2.2
    have w : WD D A s.heap [(a0, .inr (9, [.ref a2, .ref a3, .ref a4, .ref a5, .ref a6, .ref a7, .ref a8, .ref a9, .ref a10, .int (iI x0), .int (iI x1), .int (iI x2), .int (iI x3), .int (iI x4), .int (iI x5), .int (iI x6), .int (iI x7), .int (iI x8)])), (a1, .inr (8, [.ref a11, .int (iI x9), .int (iI x10), .int (iI z2), .int (iI z3), .int (iI z4), (va_rf fo5), .long fy6, .int fr7, .int (iI z8), .int (iI z11), .int (iI z12)])), (a2, .inl (T 1, 9, .inr (.inl h0))), (a3, .inl (T 0, 9, .inl (cI f0))), (a4, .inl (T 0, 9, .inl (cI f1))), (a5, .inl (T 0, 9, .inl (cI f2))), (a6, .inl (T 0, 9, .inl (cI f3))), (a7, .inl (T 0, 9, .inl (cI f4))), (a8, .inl (T 0, 9, .inl (cI f5))), (a9, .inl (T 1, 3, .inr (.inl h1))), (a10, .inl (T 0, 3, .inl (cI f6))), (a11, .inl (T 0, 940, .inl (cI f7)))] H locs := w
    refine lv_if_ne (tgt := 28) hx hb dX9_readMaid_23 (by decide) (fun c_15 => ?_) (fun c_15 => ?_)
    · replace c_15 : ¬ z10 = 0 := fun h => c_15 ((iz_eq (Int.le_trans (by decide) z10_a) (Int.le_trans z10_b (by decide))).mpr h)
      refine lv_aload_n hx hb dX9_readMaid_28 rfl (lv_at hl 0 rfl) ?_
      refine r_get (v := .ref a9) M w 0 7 clX9 rfl (by decide) G383 rfl rfl dX9_readMaid_29 ?_
      refine lv_aload_n hx hb dX9_readMaid_32 rfl (lv_at hl 0 rfl) ?_
      refine r_get (v := .int (iI x1)) M w 0 10 clX9 rfl (by decide) G393 rfl rfl dX9_readMaid_33 ?_
      refine lv_aload_n hx hb dX9_readMaid_36 rfl (lv_at hl 1 rfl) ?_
      refine r_getN (v := .long fy6) M w 1 7 clX8 rfl (by decide) N175 rfl rfl dX9_readMaid_37 ?_
      refine r_last (ws' := [(a0, .inr (9, [.ref a2, .ref a3, .ref a4, .ref a5, .ref a6, .ref a7, .ref a8, .ref a9, .ref a10, .int (iI x0), .int (iI x1), .int (iI x2), .int (iI x3), .int (iI x4), .int (iI x5), .int (iI x6), .int (iI x7), .int (iI x8)])), (a1, .inr (8, [.ref a11, .int (iI x9), .int (iI x10), .int (iI z2), .int (iI z3), .int (iI z4), (va_rf fo5), .long fy6, .int fr7, .int (iI z8), .int (iI z11), .int (iI z12)])), (a2, .inl (T 1, 9, .inr (.inl h0))), (a3, .inl (T 0, 9, .inl (cI f0))), (a4, .inl (T 0, 9, .inl (cI f1))), (a5, .inl (T 0, 9, .inl (cI f2))), (a6, .inl (T 0, 9, .inl (cI f3))), (a7, .inl (T 0, 9, .inl (cI f4))), (a8, .inl (T 0, 9, .inl (cI f5))), (a9, .inl (T 1, 3, .inr (.inl (vp_updL h1 (Int32.toNatClampNeg (iI x1)) fy6)))), (a10, .inl (T 0, 3, .inl (cI f6))), (a11, .inl (T 0, 940, .inl (cI f7)))]) M w 9 rfl (iI_in (by omega) (by omega) (by decide)) rfl dX9_readMaid_40 (fun H locs w => ?_)
      refine lv_aload_n hx hb dX9_readMaid_41 rfl (lv_at hl 1 rfl) ?_
      refine k_V (ce := 0) (sl := 0) (rest := []) (wr := [(a0, .inr (9, [.ref a2, .ref a3, .ref a4, .ref a5, .ref a6, .ref a7, .ref a8, .ref a9, .ref a10, .int (iI x0), .int (iI x1), .int (iI x2), .int (iI x3), .int (iI x4), .int (iI x5), .int (iI x6), .int (iI x7), .int (iI x8)])), (a2, .inl (T 1, 9, .inr (.inl h0))), (a3, .inl (T 0, 9, .inl (cI f0))), (a4, .inl (T 0, 9, .inl (cI f1))), (a5, .inl (T 0, 9, .inl (cI f2))), (a6, .inl (T 0, 9, .inl (cI f3))), (a7, .inl (T 0, 9, .inl (cI f4))), (a8, .inl (T 0, 9, .inl (cI f5))), (a9, .inl (T 1, 3, .inr (.inl (vp_updL h1 (Int32.toNatClampNeg (iI x1)) fy6)))), (a10, .inl (T 0, 3, .inl (cI f6)))]) (r_V (f := 4) [1, 11] M w V_HookedCity_Town_154 G587 G588 (c266_X8_step l D T _ a1 a11 x9 x10 z2 z3 z4 fo5 fy6 fr7 z8 z11 z12 f7 x9_a x9_b x10_a x10_b z2_a z2_b z3_a z3_b z4_a z4_b fo5_h z8_a z8_b z11_a z11_b z12_a z12_b f7_h) 1 clX8 rfl rfl (by decide) rfl hl.1 rfl (Nat.le_of_ble_eq_true rfl) dX9_readMaid_42 (by decide) (by decide) (by decide) (by decide)) w [1, 11] [0, 2, 3, 4, 5, 6, 7, 8, 9, 10] rfl rfl (by decide) (by decide) rfl rfl (fun u H locs hp w => ?_)
      obtain ⟨z16, z17, z18, fo19, fy20, fr21, z22⟩ := u
      have z16_a : 0 ≤ z16 := hp.1
      have z16_b : z16 ≤ 940 := hp.2.1
      have z17_a : 0 ≤ z17 := hp.2.2.1
      have z17_b : z17 ≤ 940 := hp.2.2.2.1
      have z18_a : 0 ≤ z18 := hp.2.2.2.2.1
      have z18_b : z18 ≤ 5 := hp.2.2.2.2.2.1
      have fo19_h : wok T fo19 := hp.2.2.2.2.2.2.1
      have z22_a : (-2147483648) ≤ z22 := hp.2.2.2.2.2.2.2.1
      have z22_b : z22 ≤ 2147483647 := hp.2.2.2.2.2.2.2.2.1
      have pq23 : gC T (tkAt f7 x9 x10 z2) z18 z17 z16 fy20 fr21 z22 fo19 := hp.2.2.2.2.2.2.2.2.2
      have w : WD D A s.heap [(a0, .inr (9, [.ref a2, .ref a3, .ref a4, .ref a5, .ref a6, .ref a7, .ref a8, .ref a9, .ref a10, .int (iI x0), .int (iI x1), .int (iI x2), .int (iI x3), .int (iI x4), .int (iI x5), .int (iI x6), .int (iI x7), .int (iI x8)])), (a2, .inl (T 1, 9, .inr (.inl h0))), (a3, .inl (T 0, 9, .inl (cI f0))), (a4, .inl (T 0, 9, .inl (cI f1))), (a5, .inl (T 0, 9, .inl (cI f2))), (a6, .inl (T 0, 9, .inl (cI f3))), (a7, .inl (T 0, 9, .inl (cI f4))), (a8, .inl (T 0, 9, .inl (cI f5))), (a9, .inl (T 1, 3, .inr (.inl (vp_updL h1 (Int32.toNatClampNeg (iI x1)) fy6)))), (a10, .inl (T 0, 3, .inl (cI f6))), (a1, .inr (8, [.ref a11, .int (iI x9), .int (iI x10), .int (iI z16), .int (iI z17), .int (iI z18), (va_rf fo19), .long fy20, .int fr21, .int (iI z22), .int (iI z11), .int (iI z12)])), (a11, .inl (T 0, 940, .inl (cI f7)))] H locs := w
      refine lv_aload_n hx hb dX9_readMaid_45 rfl (lv_at hl 0 rfl) ?_
      refine r_get (v := .ref a10) M w 0 8 clX9 rfl (by decide) G384 rfl rfl dX9_readMaid_46 ?_
      refine lv_aload_n hx hb dX9_readMaid_49 rfl (lv_at hl 0 rfl) ?_
      refine r_get (v := .int (iI x1)) M w 0 10 clX9 rfl (by decide) G393 rfl rfl dX9_readMaid_50 ?_
      refine lv_aload_n hx hb dX9_readMaid_53 rfl (lv_at hl 1 rfl) ?_
      refine lv_iconst (v := iI 1) hx hb dX9_readMaid_54 (by decide +kernel) ?_
      refine lv_bipush (v := iI 9) hx hb dX9_readMaid_55 (by decide +kernel) ?_
      refine k_I (ce := 0) (sl := 0) (rest := [.int (iI x1), .ref a10]) (wr := [(a0, .inr (9, [.ref a2, .ref a3, .ref a4, .ref a5, .ref a6, .ref a7, .ref a8, .ref a9, .ref a10, .int (iI x0), .int (iI x1), .int (iI x2), .int (iI x3), .int (iI x4), .int (iI x5), .int (iI x6), .int (iI x7), .int (iI x8)])), (a2, .inl (T 1, 9, .inr (.inl h0))), (a3, .inl (T 0, 9, .inl (cI f0))), (a4, .inl (T 0, 9, .inl (cI f1))), (a5, .inl (T 0, 9, .inl (cI f2))), (a6, .inl (T 0, 9, .inl (cI f3))), (a7, .inl (T 0, 9, .inl (cI f4))), (a8, .inl (T 0, 9, .inl (cI f5))), (a9, .inl (T 1, 3, .inr (.inl (vp_updL h1 (Int32.toNatClampNeg (iI x1)) fy6)))), (a10, .inl (T 0, 3, .inl (cI f6))), (a11, .inl (T 0, 940, .inl (cI f7)))]) (r_V (f := 1) [10] M w V_HookedCity_Town_168 G726 G727 (c273_X8_numberAt l D T _ a1 1 9 a11 x9 x10 z16 z17 z18 fo19 fy20 fr21 z22 z11 z12 (by decide) (by decide) (by decide) (by decide) x9_a x9_b x10_a x10_b z16_a z16_b z17_a z17_b z18_a z18_b fo19_h z22_a z22_b z11_a z11_b z12_a z12_b) 10 clX8 rfl rfl (by decide) rfl hl.1 rfl (Nat.le_of_ble_eq_true rfl) dX9_readMaid_57 (by decide) (by decide) (by decide) (by decide)) w [10] [0, 1, 2, 3, 4, 5, 6, 7, 8, 9, 11] rfl rfl (by decide) (by decide) rfl rfl (fun v u H locs hp w => ?_)
      obtain ⟨z24, z25, z26⟩ := u
      have hv : iI z24 = v := hp.1
      subst hv
      have z24_a : (-2147483648) ≤ z24 := hp.2.1
      have z24_b : z24 ≤ 2147483647 := hp.2.2.1
      have z25_a : (-2147483648) ≤ z25 := hp.2.2.2.1
      have z25_b : z25 ≤ 2147483647 := hp.2.2.2.2.1
      have z26_a : 0 ≤ z26 := hp.2.2.2.2.2.1
      have z26_b : z26 ≤ 940 := hp.2.2.2.2.2.2.1
      have pq27 : ∀ x : Tk × Int × Int, gC T x z18 z17 z16 fy20 fr21 z22 fo19 → XV (sNu 1 9 x) z24 z25 z26 := hp.2.2.2.2.2.2.2.1
      have pq28 : kpF z24 z11 z25 := hp.2.2.2.2.2.2.2.2
      have w : WD D A s.heap [(a0, .inr (9, [.ref a2, .ref a3, .ref a4, .ref a5, .ref a6, .ref a7, .ref a8, .ref a9, .ref a10, .int (iI x0), .int (iI x1), .int (iI x2), .int (iI x3), .int (iI x4), .int (iI x5), .int (iI x6), .int (iI x7), .int (iI x8)])), (a2, .inl (T 1, 9, .inr (.inl h0))), (a3, .inl (T 0, 9, .inl (cI f0))), (a4, .inl (T 0, 9, .inl (cI f1))), (a5, .inl (T 0, 9, .inl (cI f2))), (a6, .inl (T 0, 9, .inl (cI f3))), (a7, .inl (T 0, 9, .inl (cI f4))), (a8, .inl (T 0, 9, .inl (cI f5))), (a9, .inl (T 1, 3, .inr (.inl (vp_updL h1 (Int32.toNatClampNeg (iI x1)) fy6)))), (a10, .inl (T 0, 3, .inl (cI f6))), (a11, .inl (T 0, 940, .inl (cI f7))), (a1, .inr (8, [.ref a11, .int (iI x9), .int (iI x10), .int (iI z16), .int (iI z17), .int (iI z18), (va_rf fo19), .long fy20, .int fr21, .int (iI z22), .int (iI z25), .int (iI z26)]))] H locs := w
      refine r_iast (ws' := [(a0, .inr (9, [.ref a2, .ref a3, .ref a4, .ref a5, .ref a6, .ref a7, .ref a8, .ref a9, .ref a10, .int (iI x0), .int (iI x1), .int (iI x2), .int (iI x3), .int (iI x4), .int (iI x5), .int (iI x6), .int (iI x7), .int (iI x8)])), (a2, .inl (T 1, 9, .inr (.inl h0))), (a3, .inl (T 0, 9, .inl (cI f0))), (a4, .inl (T 0, 9, .inl (cI f1))), (a5, .inl (T 0, 9, .inl (cI f2))), (a6, .inl (T 0, 9, .inl (cI f3))), (a7, .inl (T 0, 9, .inl (cI f4))), (a8, .inl (T 0, 9, .inl (cI f5))), (a9, .inl (T 1, 3, .inr (.inl (vp_updL h1 (Int32.toNatClampNeg (iI x1)) fy6)))), (a10, .inl (T 0, 3, .inl (cI (upz f6 x1 z24)))), (a11, .inl (T 0, 940, .inl (cI f7))), (a1, .inr (8, [.ref a11, .int (iI x9), .int (iI x10), .int (iI z16), .int (iI z17), .int (iI z18), (va_rf fo19), .long fy20, .int fr21, .int (iI z22), .int (iI z25), .int (iI z26)]))]) M w 9 rfl (iI_in (by omega) (by omega) (by decide)) (by rw [cI_up (by omega) (by omega)]; rfl) dX9_readMaid_60 (fun H locs w => ?_)
      refine lv_aload_n hx hb dX9_readMaid_61 rfl (lv_at hl 0 rfl) ?_
      refine r_get (v := .ref a10) M w 0 8 clX9 rfl (by decide) G384 rfl rfl dX9_readMaid_62 ?_
      refine lv_aload_n hx hb dX9_readMaid_65 rfl (lv_at hl 0 rfl) ?_
      refine r_get (v := .int (iI x1)) M w 0 10 clX9 rfl (by decide) G393 rfl rfl dX9_readMaid_66 ?_
      refine r_iald (v := iI z24) M w 9 rfl (iI_in (by omega) (by omega) (by decide)) ((cI_at (by omega) (by omega)).trans (congrArg iI (by rw [upz_s]))) dX9_readMaid_69 ?_
      refine lv_iconst (v := iI (-1)) hx hb dX9_readMaid_70 (by decide +kernel) ?_
      refine lv_icmp_ne (tgt := 76) hx hb dX9_readMaid_71 (by decide) (fun c_29 => ?_) (fun c_29 => ?_)
      · replace c_29 : ¬ z24 = (-1) := fun h => c_29 ((iI_eq (Int.le_trans (by decide) z24_a) (Int.le_trans z24_b (by decide)) (by decide) (by decide)).mpr h)
        refine lv_aload_n hx hb dX9_readMaid_76 rfl (lv_at hl 1 rfl) ?_
        refine k_V (ce := 0) (sl := 0) (rest := []) (wr := [(a0, .inr (9, [.ref a2, .ref a3, .ref a4, .ref a5, .ref a6, .ref a7, .ref a8, .ref a9, .ref a10, .int (iI x0), .int (iI x1), .int (iI x2), .int (iI x3), .int (iI x4), .int (iI x5), .int (iI x6), .int (iI x7), .int (iI x8)])), (a2, .inl (T 1, 9, .inr (.inl h0))), (a3, .inl (T 0, 9, .inl (cI f0))), (a4, .inl (T 0, 9, .inl (cI f1))), (a5, .inl (T 0, 9, .inl (cI f2))), (a6, .inl (T 0, 9, .inl (cI f3))), (a7, .inl (T 0, 9, .inl (cI f4))), (a8, .inl (T 0, 9, .inl (cI f5))), (a9, .inl (T 1, 3, .inr (.inl (vp_updL h1 (Int32.toNatClampNeg (iI x1)) fy6)))), (a10, .inl (T 0, 3, .inl (cI (upz f6 x1 z24))))]) (r_V (f := 4) [11, 10] M w V_HookedCity_Town_154 G587 G588 (c266_X8_step l D T _ a1 a11 x9 x10 z16 z17 z18 fo19 fy20 fr21 z22 z25 z26 f7 x9_a x9_b x10_a x10_b z16_a z16_b z17_a z17_b z18_a z18_b fo19_h z22_a z22_b z25_a z25_b z26_a z26_b f7_h) 11 clX8 rfl rfl (by decide) rfl hl.1 rfl (Nat.le_of_ble_eq_true rfl) dX9_readMaid_77 (by decide) (by decide) (by decide) (by decide)) w [11, 10] [0, 1, 2, 3, 4, 5, 6, 7, 8, 9] rfl rfl (by decide) (by decide) rfl rfl (fun u H locs hp w => ?_)
        obtain ⟨z30, z31, z32, fo33, fy34, fr35, z36⟩ := u
        have z30_a : 0 ≤ z30 := hp.1
        have z30_b : z30 ≤ 940 := hp.2.1
        have z31_a : 0 ≤ z31 := hp.2.2.1
        have z31_b : z31 ≤ 940 := hp.2.2.2.1
        have z32_a : 0 ≤ z32 := hp.2.2.2.2.1
        have z32_b : z32 ≤ 5 := hp.2.2.2.2.2.1
        have fo33_h : wok T fo33 := hp.2.2.2.2.2.2.1
        have z36_a : (-2147483648) ≤ z36 := hp.2.2.2.2.2.2.2.1
        have z36_b : z36 ≤ 2147483647 := hp.2.2.2.2.2.2.2.2.1
        have pq37 : gC T (tkAt f7 x9 x10 z16) z32 z31 z30 fy34 fr35 z36 fo33 := hp.2.2.2.2.2.2.2.2.2
        have w : WD D A s.heap [(a0, .inr (9, [.ref a2, .ref a3, .ref a4, .ref a5, .ref a6, .ref a7, .ref a8, .ref a9, .ref a10, .int (iI x0), .int (iI x1), .int (iI x2), .int (iI x3), .int (iI x4), .int (iI x5), .int (iI x6), .int (iI x7), .int (iI x8)])), (a2, .inl (T 1, 9, .inr (.inl h0))), (a3, .inl (T 0, 9, .inl (cI f0))), (a4, .inl (T 0, 9, .inl (cI f1))), (a5, .inl (T 0, 9, .inl (cI f2))), (a6, .inl (T 0, 9, .inl (cI f3))), (a7, .inl (T 0, 9, .inl (cI f4))), (a8, .inl (T 0, 9, .inl (cI f5))), (a9, .inl (T 1, 3, .inr (.inl (vp_updL h1 (Int32.toNatClampNeg (iI x1)) fy6)))), (a10, .inl (T 0, 3, .inl (cI (upz f6 x1 z24)))), (a1, .inr (8, [.ref a11, .int (iI x9), .int (iI x10), .int (iI z30), .int (iI z31), .int (iI z32), (va_rf fo33), .long fy34, .int fr35, .int (iI z36), .int (iI z25), .int (iI z26)])), (a11, .inl (T 0, 940, .inl (cI f7)))] H locs := w
        refine lv_aload_n hx hb dX9_readMaid_80 rfl (lv_at hl 0 rfl) ?_
        refine lv_dup hx hb dX9_readMaid_81 rfl ?_
        refine r_get (v := .int (iI x1)) M w 0 10 clX9 rfl (by decide) G393 rfl rfl dX9_readMaid_82 ?_
        refine lv_iconst (v := iI 1) hx hb dX9_readMaid_85 (by decide +kernel) ?_
        refine r_iadd (v := iI (x1 + 1)) M (iI_add _ _) dX9_readMaid_86 ?_
        refine r_put (ws' := [(a0, .inr (9, [.ref a2, .ref a3, .ref a4, .ref a5, .ref a6, .ref a7, .ref a8, .ref a9, .ref a10, .int (iI x0), .int (iI (x1 + 1)), .int (iI x2), .int (iI x3), .int (iI x4), .int (iI x5), .int (iI x6), .int (iI x7), .int (iI x8)])), (a2, .inl (T 1, 9, .inr (.inl h0))), (a3, .inl (T 0, 9, .inl (cI f0))), (a4, .inl (T 0, 9, .inl (cI f1))), (a5, .inl (T 0, 9, .inl (cI f2))), (a6, .inl (T 0, 9, .inl (cI f3))), (a7, .inl (T 0, 9, .inl (cI f4))), (a8, .inl (T 0, 9, .inl (cI f5))), (a9, .inl (T 1, 3, .inr (.inl (vp_updL h1 (Int32.toNatClampNeg (iI x1)) fy6)))), (a10, .inl (T 0, 3, .inl (cI (upz f6 x1 z24)))), (a1, .inr (8, [.ref a11, .int (iI x9), .int (iI x10), .int (iI z30), .int (iI z31), .int (iI z32), (va_rf fo33), .long fy34, .int fr35, .int (iI z36), .int (iI z25), .int (iI z26)])), (a11, .inl (T 0, 940, .inl (cI f7)))]) M w 0 10 clX9 rfl (by decide) G393 rfl rfl rfl rfl (Nat.le_of_ble_eq_true rfl) rfl dX9_readMaid_87 (fun H locs w => ?_)
        refine lv_iconst (v := iI 1) hx hb dX9_readMaid_90 (by decide +kernel) ?_
        exact ret _ (1, (x1 + 1), z30, z31, z32, fo33, fy34, fr35, z36, z25, z26, (vp_updL h1 (Int32.toNatClampNeg (iI x1)) fy6), (upz f6 x1 z24)) _ _ _ _ _ [0, 10, 1, 2, 3, 4, 5, 6, 7, 8, 9, 11] dX9_readMaid_91 (by decide +kernel) ⟨rfl, (show (0 : Int) ≤ 1 from by decide), (show (1 : Int) ≤ 1 from by decide), (show 0 ≤ (x1 + 1) from by omega), (show (x1 + 1) ≤ 3 from by omega), z30_a, z30_b, z31_a, z31_b, z32_a, z32_b, fo33_h, z36_a, z36_b, z25_a, z25_b, z26_a, z26_b, (rng_up f6_h (by omega) (by omega)), (show ∀ (x : Tk × Int × Int) (rd : Int → Int) (h : Nat → Int64) (o : Int → Int), gC T x x13 x12 x11 y0 r0 x14 o0 → XW rd h o h0 f0 f1 f2 f3 f4 f5 h1 f6 x0 x1 x3 x4 x5 x6 x7 x8 → XP (sMaid f7 x9 x10 x rd h o) 1 z25 z26 (fun y => gC T y z32 z31 z30 fy34 fr35 z36 fo33) (fun rd h o => XW rd h o h0 f0 f1 f2 f3 f4 f5 (vp_updL h1 (Int32.toNatClampNeg (iI x1)) fy6) (upz f6 x1 z24) x0 (x1 + 1) x3 x4 x5 x6 x7 x8) from (by intro x rd h o hx hw; have hw1 := hw.1; rw [sMaid, if_neg (by omega)]; have g1 := gC_nx hx pq9; have c1 := pq13 _ rd h o g1 hw; have n1 := chk_nm c1 (by omega); refine bxC_ok c1 (by omega) (fun _ => ?_); have g2 := gC_nx g1 pq23; refine bxV_ok (pq27 _ g2) (by omega) ?_; have g3 := gC_nx g2 pq37; exact ⟨rfl, g3, xw_maid hw (gC_nr g1 n1).1 (by omega)⟩)), (show kpB 1 x15 z25 from (fun hr => by have y1 := pq14 (by omega); have y3 := pq28 (by omega); omega))⟩ w (by decide) rfl
      · replace c_29 := (iI_eq (Int.le_trans (by decide) z24_a) (Int.le_trans z24_b (by decide)) (by decide) (by decide)).mp c_29
        refine lv_iconst (v := iI 0) hx hb dX9_readMaid_74 (by decide +kernel) ?_
        exact ret _ (0, x1, z16, z17, z18, fo19, fy20, fr21, z22, z25, z26, (vp_updL h1 (Int32.toNatClampNeg (iI x1)) fy6), (upz f6 x1 z24)) _ _ _ _ _ [0, 11, 1, 2, 3, 4, 5, 6, 7, 8, 9, 10] dX9_readMaid_75 (by decide +kernel) ⟨rfl, (show (0 : Int) ≤ 0 from by decide), (show (0 : Int) ≤ 1 from by decide), x1_a, x1_b, z16_a, z16_b, z17_a, z17_b, z18_a, z18_b, fo19_h, z22_a, z22_b, z25_a, z25_b, z26_a, z26_b, (rng_up f6_h (by omega) (by omega)), (show ∀ (x : Tk × Int × Int) (rd : Int → Int) (h : Nat → Int64) (o : Int → Int), gC T x x13 x12 x11 y0 r0 x14 o0 → XW rd h o h0 f0 f1 f2 f3 f4 f5 h1 f6 x0 x1 x3 x4 x5 x6 x7 x8 → XP (sMaid f7 x9 x10 x rd h o) 0 z25 z26 (fun y => gC T y z18 z17 z16 fy20 fr21 z22 fo19) (fun rd h o => XW rd h o h0 f0 f1 f2 f3 f4 f5 (vp_updL h1 (Int32.toNatClampNeg (iI x1)) fy6) (upz f6 x1 z24) x0 x1 x3 x4 x5 x6 x7 x8) from (by intro x rd h o hx hw; have hw1 := hw.1; rw [sMaid, if_neg (by omega)]; have g1 := gC_nx hx pq9; have c1 := pq13 _ rd h o g1 hw; have n1 := chk_nm c1 (by omega); refine bxC_ok c1 (by omega) (fun _ => ?_); have g2 := gC_nx g1 pq23; exact bxV_bad (pq27 _ g2) (by omega) rfl)), (show kpB 0 x15 z25 from (fun e => absurd e (by decide)))⟩ w (by decide) rfl
    · replace c_15 := (iz_eq (Int.le_trans (by decide) z10_a) (Int.le_trans z10_b (by decide))).mp c_15
      refine lv_iconst (v := iI 0) hx hb dX9_readMaid_26 (by decide +kernel) ?_
      exact ret _ (0, x1, z2, z3, z4, fo5, fy6, fr7, z8, z11, z12, h1, f6) _ _ _ _ _ [0, 1, 2, 3, 4, 5, 6, 7, 8, 9, 10, 11] dX9_readMaid_27 (by decide +kernel) ⟨rfl, (show (0 : Int) ≤ 0 from by decide), (show (0 : Int) ≤ 1 from by decide), x1_a, x1_b, z2_a, z2_b, z3_a, z3_b, z4_a, z4_b, fo5_h, z8_a, z8_b, z11_a, z11_b, z12_a, z12_b, f6_h, (show ∀ (x : Tk × Int × Int) (rd : Int → Int) (h : Nat → Int64) (o : Int → Int), gC T x x13 x12 x11 y0 r0 x14 o0 → XW rd h o h0 f0 f1 f2 f3 f4 f5 h1 f6 x0 x1 x3 x4 x5 x6 x7 x8 → XP (sMaid f7 x9 x10 x rd h o) 0 z11 z12 (fun y => gC T y z4 z3 z2 fy6 fr7 z8 fo5) (fun rd h o => XW rd h o h0 f0 f1 f2 f3 f4 f5 h1 f6 x0 x1 x3 x4 x5 x6 x7 x8) from (by intro x rd h o hx hw; have hw1 := hw.1; rw [sMaid, if_neg (by omega)]; have g1 := gC_nx hx pq9; have c1 := pq13 _ rd h o g1 hw; exact bxC_bad c1 (by omega) rfl)), (show kpB 0 x15 z11 from (fun e => absurd e (by decide)))⟩ w (by decide) rfl
  · replace c_1 : 3 ≤ x1 := Int.not_lt.mp (fun h => c_1 ((iI_lt (Int.le_trans (by decide) x1_a) (Int.le_trans x1_b (by decide)) (by decide) (by decide)).mpr h))
    refine lv_aload_n hx hb dX9_readMaid_8 rfl (lv_at hl 1 rfl) ?_
    refine lv_iconst (v := iI 4) hx hb dX9_readMaid_9 (by decide +kernel) ?_
    refine k_I (ce := 0) (sl := 0) (rest := []) (wr := [(a0, .inr (9, [.ref a2, .ref a3, .ref a4, .ref a5, .ref a6, .ref a7, .ref a8, .ref a9, .ref a10, .int (iI x0), .int (iI x1), .int (iI x2), .int (iI x3), .int (iI x4), .int (iI x5), .int (iI x6), .int (iI x7), .int (iI x8)])), (a2, .inl (T 1, 9, .inr (.inl h0))), (a3, .inl (T 0, 9, .inl (cI f0))), (a4, .inl (T 0, 9, .inl (cI f1))), (a5, .inl (T 0, 9, .inl (cI f2))), (a6, .inl (T 0, 9, .inl (cI f3))), (a7, .inl (T 0, 9, .inl (cI f4))), (a8, .inl (T 0, 9, .inl (cI f5))), (a9, .inl (T 1, 3, .inr (.inl h1))), (a10, .inl (T 0, 3, .inl (cI f6))), (a11, .inl (T 0, 940, .inl (cI f7)))]) (r_V (f := 0) [1] M w V_HookedCity_Town_150 G710 G711 (c271_X8_fail l D T _ a1 4 a11 x9 x10 x11 x12 x13 o0 y0 r0 x14 x15 x16 (by decide) (by decide) x9_a x9_b x10_a x10_b x11_a x11_b x12_a x12_b x13_a x13_b o0_h x14_a x14_b x15_a x15_b x16_a x16_b) 1 clX8 rfl rfl (by decide) rfl hl.1 rfl (Nat.le_of_ble_eq_true rfl) dX9_readMaid_10 (by decide) (by decide) (by decide) (by decide)) w [1] [0, 2, 3, 4, 5, 6, 7, 8, 9, 10, 11] rfl rfl (by decide) (by decide) rfl rfl (fun v u H locs hp w => ?_)
    obtain ⟨z38, z39, z40⟩ := u
    have hv : iI z38 = v := hp.1
    subst hv
    have z38_a : 0 ≤ z38 := hp.2.1
    have z38_b : z38 ≤ 1 := hp.2.2.1
    have z39_a : (-2147483648) ≤ z39 := hp.2.2.2.1
    have z39_b : z39 ≤ 2147483647 := hp.2.2.2.2.1
    have z40_a : 0 ≤ z40 := hp.2.2.2.2.2.1
    have z40_b : z40 ≤ 940 := hp.2.2.2.2.2.2.1
    have pq41 : z39 = 4 := hp.2.2.2.2.2.2.2.1
    have pq42 : z40 = x12 := hp.2.2.2.2.2.2.2.2.1
    have w : WD D A s.heap [(a0, .inr (9, [.ref a2, .ref a3, .ref a4, .ref a5, .ref a6, .ref a7, .ref a8, .ref a9, .ref a10, .int (iI x0), .int (iI x1), .int (iI x2), .int (iI x3), .int (iI x4), .int (iI x5), .int (iI x6), .int (iI x7), .int (iI x8)])), (a2, .inl (T 1, 9, .inr (.inl h0))), (a3, .inl (T 0, 9, .inl (cI f0))), (a4, .inl (T 0, 9, .inl (cI f1))), (a5, .inl (T 0, 9, .inl (cI f2))), (a6, .inl (T 0, 9, .inl (cI f3))), (a7, .inl (T 0, 9, .inl (cI f4))), (a8, .inl (T 0, 9, .inl (cI f5))), (a9, .inl (T 1, 3, .inr (.inl h1))), (a10, .inl (T 0, 3, .inl (cI f6))), (a11, .inl (T 0, 940, .inl (cI f7))), (a1, .inr (8, [.ref a11, .int (iI x9), .int (iI x10), .int (iI x11), .int (iI x12), .int (iI x13), (va_rf o0), .long y0, .int r0, .int (iI x14), .int (iI z39), .int (iI z40)]))] H locs := w
    rcases hp.2.2.2.2.2.2.2.2.2 with hr
    · subst hr
      exact ret _ (0, x1, x11, x12, x13, o0, y0, r0, x14, z39, z40, h1, f6) _ _ _ _ _ [0, 11, 1, 2, 3, 4, 5, 6, 7, 8, 9, 10] dX9_readMaid_13 (by decide +kernel) ⟨rfl, (show (0 : Int) ≤ 0 from by decide), (show (0 : Int) ≤ 1 from by decide), x1_a, x1_b, x11_a, x11_b, x12_a, x12_b, x13_a, x13_b, o0_h, x14_a, x14_b, z39_a, z39_b, z40_a, z40_b, f6_h, (show ∀ (x : Tk × Int × Int) (rd : Int → Int) (h : Nat → Int64) (o : Int → Int), gC T x x13 x12 x11 y0 r0 x14 o0 → XW rd h o h0 f0 f1 f2 f3 f4 f5 h1 f6 x0 x1 x3 x4 x5 x6 x7 x8 → XP (sMaid f7 x9 x10 x rd h o) 0 z39 z40 (fun y => gC T y x13 x12 x11 y0 r0 x14 o0) (fun rd h o => XW rd h o h0 f0 f1 f2 f3 f4 f5 h1 f6 x0 x1 x3 x4 x5 x6 x7 x8) from (by intro x rd h o hx hw; have hw1 := hw.1; rw [sMaid, if_pos (by omega)]; exact ⟨rfl, by omega, pq42.trans hx.1⟩)), (show kpB 0 x15 z39 from (fun e => absurd e (by decide)))⟩ w (by decide) rfl
set_option maxRecDepth 100000 in
set_option maxHeartbeats 4000000 in
theorem c290_X9_kindAt (l : Launch) (D : va_G) (T : Nat → ClassId) (sz : Nat) (a0 : Nat) (a1 : Nat) (a2 : Nat) (x0 : Int) (x1 : Int) (x2 : Int) (x3 : Int) (x4 : Int) (o0 : Option Nat) (y0 : Int64) (r0 : Int32) (x5 : Int) (x6 : Int) (x7 : Int) (f0 : Int → Int) (x0_a : 0 ≤ x0) (x0_b : x0 ≤ 940) (x1_a : 0 ≤ x1) (x1_b : x1 ≤ 940) (x2_a : 0 ≤ x2) (x2_b : x2 ≤ 940) (x3_a : 0 ≤ x3) (x3_b : x3 ≤ 940) (x4_a : 0 ≤ x4) (x4_b : x4 ≤ 5) (o0_h : wok T o0) (x5_a : (-2147483648) ≤ x5) (x5_b : x5 ≤ 2147483647) (x6_a : (-2147483648) ≤ x6) (x6_b : x6 ≤ 2147483647) (x7_a : 0 ≤ x7) (x7_b : x7 ≤ 940) (f0_h : rng 0 255 f0) : Met l yX9_kindAt (Cond.code yX9_kindAt cX9_kindAt 3 (some .int) :: GW) (Rm 1 0 0) (cPre [.ref a0, .ref a1] D T [(a1, .inr (8, [.ref a2, .int (iI x0), .int (iI x1), .int (iI x2), .int (iI x3), .int (iI x4), (va_rf o0), .long y0, .int r0, .int (iI x5), .int (iI x6), .int (iI x7)])), (a2, .inl (T 0, 940, .inl (cI f0)))] sz) (qI D [(a1, .inr (8, [.ref a2, .int (iI x0), .int (iI x1), .int (iI x2), .int (iI x3), .int (iI x4), (va_rf o0), .long y0, .int r0, .int (iI x5), .int (iI x6), .int (iI x7)])), (a2, .inl (T 0, 940, .inl (cI f0)))] sz (fun (v : Int32) (u : Int × Option Nat × Int × Int) => iI u.1 = v ∧ (-2147483648) ≤ u.1 ∧ u.1 ≤ 2147483647 ∧ wok T u.2.1 ∧ (-2147483648) ≤ u.2.2.1 ∧ u.2.2.1 ≤ 2147483647 ∧ 0 ≤ u.2.2.2 ∧ u.2.2.2 ≤ 940 ∧ (∀ x : Tk × Int × Int, gC T x x4 x3 x2 y0 r0 x5 o0 → XV (sKd x) u.1 u.2.2.1 u.2.2.2) ∧ (kpF u.1 x6 u.2.2.1)) (fun u => [(a1, .inr (8, [.ref a2, .int (iI x0), .int (iI x1), .int (iI x2), .int (iI x3), .int (iI x4), (va_rf u.2.1), .long y0, .int r0, .int (iI x5), .int (iI u.2.2.1), .int (iI u.2.2.2)])), (a2, .inl (T 0, 940, .inl (cI f0)))])) 0 0 (va_A [(a1, .inr (8, [.ref a2, .int (iI x0), .int (iI x1), .int (iI x2), .int (iI x3), .int (iI x4), (va_rf o0), .long y0, .int r0, .int (iI x5), .int (iI x6), .int (iI x7)])), (a2, .inl (T 0, 940, .inl (cI f0)))] sz) := by
  refine e_I (by decide) (Nat.le_of_ble_eq_true rfl) ?_
  intro p e s m args below meth c A Q ls M hin w ret hl
  have hx := M.1.1
  have hb := M.1.2.1
  have hl : lv_has ls 3 [(0, .ref a0), (1, .ref a1)] := hl
  refine lv_aload_n hx hb dX9_kindAt_0 rfl (lv_at hl 1 rfl) ?_
  refine r_getN (v := (va_rf o0)) M w 0 6 clX8 rfl (by decide) N172 rfl rfl dX9_kindAt_1 ?_
  cases o0 with
  | none =>
    refine lv_astore_nN (lv' := [(2, .null), (0, .ref a0), (1, .ref a1)]) hx hb dX9_kindAt_4 rfl hl (by decide) rfl (fun ls hl => ?_)
    refine lv_aload_nN hx hb dX9_kindAt_5 rfl (lv_at hl 0 rfl) ?_
    refine lv_ifnullN (tgt := 17) hx hb dX9_kindAt_6 (by decide) ?_
    refine lv_aload_n hx hb dX9_kindAt_17 rfl (lv_at hl 2 rfl) ?_
    refine lv_iconst (v := iI 1) hx hb dX9_kindAt_18 (by decide +kernel) ?_
    refine k_I (ce := 0) (sl := 0) (rest := []) (wr := [(a2, .inl (T 0, 940, .inl (cI f0)))]) (r_V (f := 0) [0] M w V_HookedCity_Town_150 G710 G711 (c271_X8_fail l D T _ a1 1 a2 x0 x1 x2 x3 x4 none y0 r0 x5 x6 x7 (by decide) (by decide) x0_a x0_b x1_a x1_b x2_a x2_b x3_a x3_b x4_a x4_b wok_n x5_a x5_b x6_a x6_b x7_a x7_b) 0 clX8 rfl rfl (by decide) rfl hl.1 rfl (Nat.le_of_ble_eq_true rfl) dX9_kindAt_19 (by decide) (by decide) (by decide) (by decide)) w [0] [1] rfl rfl (by decide) (by decide) rfl rfl (fun v u H locs hp w => ?_)
    obtain ⟨z2, z3, z4⟩ := u
    have hv : iI z2 = v := hp.1
    subst hv
    have z2_a : 0 ≤ z2 := hp.2.1
    have z2_b : z2 ≤ 1 := hp.2.2.1
    have z3_a : (-2147483648) ≤ z3 := hp.2.2.2.1
    have z3_b : z3 ≤ 2147483647 := hp.2.2.2.2.1
    have z4_a : 0 ≤ z4 := hp.2.2.2.2.2.1
    have z4_b : z4 ≤ 940 := hp.2.2.2.2.2.2.1
    have pq5 : z3 = 1 := hp.2.2.2.2.2.2.2.1
    have pq6 : z4 = x3 := hp.2.2.2.2.2.2.2.2.1
    have w : WD D A s.heap [(a2, .inl (T 0, 940, .inl (cI f0))), (a1, .inr (8, [.ref a2, .int (iI x0), .int (iI x1), .int (iI x2), .int (iI x3), .int (iI x4), (va_rf none), .long y0, .int r0, .int (iI x5), .int (iI z3), .int (iI z4)]))] H locs := w
    rcases hp.2.2.2.2.2.2.2.2.2 with hr
    · subst hr
      refine lv_pop hx hb dX9_kindAt_22 rfl ?_
      refine lv_iconst (v := iI (-1)) hx hb dX9_kindAt_23 (by decide +kernel) ?_
      exact ret _ ((-1), none, z3, z4) _ _ _ _ _ [1, 0] dX9_kindAt_24 ⟨rfl, (show (-2147483648) ≤ (-1) from by decide), (show ((-1) : Int) ≤ 2147483647 from by decide), wok_n, z3_a, z3_b, z4_a, z4_b, (show ∀ x : Tk × Int × Int, gC T x x4 x3 x2 y0 r0 x5 none → XV (sKd x) (-1) z3 z4 from (ckind_A (by omega) pq6 (fun x g => ckd_n g))), (show kpF (-1) x6 z3 from (fun e => absurd rfl e))⟩ w (by decide) rfl
  | some qq1 =>
    refine lv_astore_n (lv' := [(2, .ref qq1), (0, .ref a0), (1, .ref a1)]) hx hb dX9_kindAt_4 rfl hl (by decide) rfl (fun ls hl => ?_)
    refine lv_aload_n hx hb dX9_kindAt_5 rfl (lv_at hl 0 rfl) ?_
    refine lv_ifnull hx hb dX9_kindAt_6 ?_
    refine lv_aload_n hx hb dX9_kindAt_9 rfl (lv_at hl 0 rfl) ?_
    refine r_wkindXN M w o0_h N2087 dX9_kindAt_10 (fun kw7 hk8 ek9 => ?_)
    have kw7_b := wkd_b kw7
    refine lv_iconst (v := iI (-1)) hx hb dX9_kindAt_13 (by decide +kernel) ?_
    refine lv_icmp_ne (tgt := 25) hx hb dX9_kindAt_14 (by decide) (fun c_10 => ?_) (fun c_10 => ?_)
    · replace c_10 : ¬ (wkdF kw7) = (-1) := fun h => c_10 ((iI_eq (by omega) (by omega) (by decide) (by decide)).mpr h)
      refine lv_aload_n hx hb dX9_kindAt_25 rfl (lv_at hl 0 rfl) ?_
      refine r_wkindXN M w o0_h N2087 dX9_kindAt_26 (fun kw11 hk12 ek13 => ?_)
      have kw11_b := wkd_b kw11
      exact ret _ ((wkdF kw11), (some qq1), x6, x7) _ _ _ _ _ [0, 1] dX9_kindAt_29 ⟨rfl, (show (-2147483648) ≤ (wkdF kw11) from by omega), (show (wkdF kw11) ≤ 2147483647 from by omega), o0_h, x6_a, x6_b, x7_a, x7_b, (show ∀ x : Tk × Int × Int, gC T x x4 x3 x2 y0 r0 x5 (some qq1) → XV (sKd x) (wkdF kw11) x6 x7 from (by intro x g; have e1 := ckd_k M.2.2.2.2.2.2.2.2.2 g hk8 ek9; have e2 := ckd_k M.2.2.2.2.2.2.2.2.2 g hk12 ek13; exact ckind_B (by omega) (by omega) (fun x g => ckd_k M.2.2.2.2.2.2.2.2.2 g hk12 ek13) x g)), (show kpF (wkdF kw11) x6 x6 from (fun hr => by omega))⟩ w (by decide) rfl
    · replace c_10 := (iI_eq (by omega) (by omega) (by decide) (by decide)).mp c_10
      refine lv_aload_n hx hb dX9_kindAt_17 rfl (lv_at hl 2 rfl) ?_
      refine lv_iconst (v := iI 1) hx hb dX9_kindAt_18 (by decide +kernel) ?_
      refine k_I (ce := 0) (sl := 0) (rest := []) (wr := [(a2, .inl (T 0, 940, .inl (cI f0)))]) (r_V (f := 0) [0] M w V_HookedCity_Town_150 G710 G711 (c271_X8_fail l D T _ a1 1 a2 x0 x1 x2 x3 x4 (some qq1) y0 r0 x5 x6 x7 (by decide) (by decide) x0_a x0_b x1_a x1_b x2_a x2_b x3_a x3_b x4_a x4_b o0_h x5_a x5_b x6_a x6_b x7_a x7_b) 0 clX8 rfl rfl (by decide) rfl hl.1 rfl (Nat.le_of_ble_eq_true rfl) dX9_kindAt_19 (by decide) (by decide) (by decide) (by decide)) w [0] [1] rfl rfl (by decide) (by decide) rfl rfl (fun v u H locs hp w => ?_)
      obtain ⟨z14, z15, z16⟩ := u
      have hv : iI z14 = v := hp.1
      subst hv
      have z14_a : 0 ≤ z14 := hp.2.1
      have z14_b : z14 ≤ 1 := hp.2.2.1
      have z15_a : (-2147483648) ≤ z15 := hp.2.2.2.1
      have z15_b : z15 ≤ 2147483647 := hp.2.2.2.2.1
      have z16_a : 0 ≤ z16 := hp.2.2.2.2.2.1
      have z16_b : z16 ≤ 940 := hp.2.2.2.2.2.2.1
      have pq17 : z15 = 1 := hp.2.2.2.2.2.2.2.1
      have pq18 : z16 = x3 := hp.2.2.2.2.2.2.2.2.1
      have w : WD D A s.heap [(a2, .inl (T 0, 940, .inl (cI f0))), (a1, .inr (8, [.ref a2, .int (iI x0), .int (iI x1), .int (iI x2), .int (iI x3), .int (iI x4), (va_rf (some qq1)), .long y0, .int r0, .int (iI x5), .int (iI z15), .int (iI z16)]))] H locs := w
      rcases hp.2.2.2.2.2.2.2.2.2 with hr
      · subst hr
        refine lv_pop hx hb dX9_kindAt_22 rfl ?_
        refine lv_iconst (v := iI (-1)) hx hb dX9_kindAt_23 (by decide +kernel) ?_
        exact ret _ ((-1), (some qq1), z15, z16) _ _ _ _ _ [1, 0] dX9_kindAt_24 ⟨rfl, (show (-2147483648) ≤ (-1) from by decide), (show ((-1) : Int) ≤ 2147483647 from by decide), o0_h, z15_a, z15_b, z16_a, z16_b, (show ∀ x : Tk × Int × Int, gC T x x4 x3 x2 y0 r0 x5 (some qq1) → XV (sKd x) (-1) z15 z16 from (ckind_A (by omega) pq18 (fun x g => (ckd_k M.2.2.2.2.2.2.2.2.2 g hk8 ek9).trans (by omega)))), (show kpF (-1) x6 z15 from (fun e => absurd rfl e))⟩ w (by decide) rfl
set_option maxRecDepth 100000 in
set_option maxHeartbeats 4000000 in
theorem c291_X9_readPerson (l : Launch) (D : va_G) (T : Nat → ClassId) (sz : Nat) (a0 : Nat) (a1 : Nat) (a2 : Nat) (a3 : Nat) (a4 : Nat) (a5 : Nat) (a6 : Nat) (a7 : Nat) (a8 : Nat) (a9 : Nat) (a10 : Nat) (x0 : Int) (x1 : Int) (x2 : Int) (x3 : Int) (x4 : Int) (x5 : Int) (x6 : Int) (x7 : Int) (x8 : Int) (a11 : Nat) (x9 : Int) (x10 : Int) (x11 : Int) (x12 : Int) (x13 : Int) (o0 : Option Nat) (y0 : Int64) (r0 : Int32) (x14 : Int) (x15 : Int) (x16 : Int) (h0 : Nat → Int64) (f0 : Int → Int) (f1 : Int → Int) (f2 : Int → Int) (f3 : Int → Int) (f4 : Int → Int) (f5 : Int → Int) (h1 : Nat → Int64) (f6 : Int → Int) (f7 : Int → Int) (x0_a : 0 ≤ x0) (x0_b : x0 ≤ 9) (x1_a : 0 ≤ x1) (x1_b : x1 ≤ 3) (x2_a : 0 ≤ x2) (x2_b : x2 ≤ 900) (x3_a : (-2147483648) ≤ x3) (x3_b : x3 ≤ 2147483647) (x4_a : (-2147483648) ≤ x4) (x4_b : x4 ≤ 2147483647) (x5_a : (-2147483648) ≤ x5) (x5_b : x5 ≤ 2147483647) (x6_a : 0 ≤ x6) (x6_b : x6 ≤ 1) (x7_a : 0 ≤ x7) (x7_b : x7 ≤ 1) (x8_a : 0 ≤ x8) (x8_b : x8 ≤ 1) (x9_a : 0 ≤ x9) (x9_b : x9 ≤ 940) (x10_a : 0 ≤ x10) (x10_b : x10 ≤ 940) (x11_a : 0 ≤ x11) (x11_b : x11 ≤ 940) (x12_a : 0 ≤ x12) (x12_b : x12 ≤ 940) (x13_a : 0 ≤ x13) (x13_b : x13 ≤ 5) (o0_h : wok T o0) (x14_a : (-2147483648) ≤ x14) (x14_b : x14 ≤ 2147483647) (x15_a : (-2147483648) ≤ x15) (x15_b : x15 ≤ 2147483647) (x16_a : 0 ≤ x16) (x16_b : x16 ≤ 940) (f0_h : rng (-2147483648) 2147483647 f0) (f1_h : rng (-2147483648) 2147483647 f1) (f2_h : rng (-2147483648) 2147483647 f2) (f3_h : rng 0 511 f3) (f4_h : rng (-1) 8 f4) (f5_h : rng (-1) 8 f5) (f6_h : rng (-2147483648) 2147483647 f6) (f7_h : rng 0 255 f7) : Met l yX9_readPerson (Cond.code yX9_readPerson cX9_readPerson 2 (some .boolean) :: GW) (Rm 5 0 0) (cPre [.ref a0, .ref a1] D T [(a0, .inr (9, [.ref a2, .ref a3, .ref a4, .ref a5, .ref a6, .ref a7, .ref a8, .ref a9, .ref a10, .int (iI x0), .int (iI x1), .int (iI x2), .int (iI x3), .int (iI x4), .int (iI x5), .int (iI x6), .int (iI x7), .int (iI x8)])), (a1, .inr (8, [.ref a11, .int (iI x9), .int (iI x10), .int (iI x11), .int (iI x12), .int (iI x13), (va_rf o0), .long y0, .int r0, .int (iI x14), .int (iI x15), .int (iI x16)])), (a2, .inl (T 1, 9, .inr (.inl h0))), (a3, .inl (T 0, 9, .inl (cI f0))), (a4, .inl (T 0, 9, .inl (cI f1))), (a5, .inl (T 0, 9, .inl (cI f2))), (a6, .inl (T 0, 9, .inl (cI f3))), (a7, .inl (T 0, 9, .inl (cI f4))), (a8, .inl (T 0, 9, .inl (cI f5))), (a9, .inl (T 1, 3, .inr (.inl h1))), (a10, .inl (T 0, 3, .inl (cI f6))), (a11, .inl (T 0, 940, .inl (cI f7)))] sz) (qI D [(a0, .inr (9, [.ref a2, .ref a3, .ref a4, .ref a5, .ref a6, .ref a7, .ref a8, .ref a9, .ref a10, .int (iI x0), .int (iI x1), .int (iI x2), .int (iI x3), .int (iI x4), .int (iI x5), .int (iI x6), .int (iI x7), .int (iI x8)])), (a1, .inr (8, [.ref a11, .int (iI x9), .int (iI x10), .int (iI x11), .int (iI x12), .int (iI x13), (va_rf o0), .long y0, .int r0, .int (iI x14), .int (iI x15), .int (iI x16)])), (a2, .inl (T 1, 9, .inr (.inl h0))), (a3, .inl (T 0, 9, .inl (cI f0))), (a4, .inl (T 0, 9, .inl (cI f1))), (a5, .inl (T 0, 9, .inl (cI f2))), (a6, .inl (T 0, 9, .inl (cI f3))), (a7, .inl (T 0, 9, .inl (cI f4))), (a8, .inl (T 0, 9, .inl (cI f5))), (a9, .inl (T 1, 3, .inr (.inl h1))), (a10, .inl (T 0, 3, .inl (cI f6))), (a11, .inl (T 0, 940, .inl (cI f7)))] sz (fun (v : Int32) (u : Int × Int × Int × Int × Int × Option Nat × Int64 × Int32 × Int × Int × Int × (Nat → Int64) × (Int → Int) × (Int → Int) × (Int → Int)) => iI u.1 = v ∧ 0 ≤ u.1 ∧ u.1 ≤ 1 ∧ 0 ≤ u.2.1 ∧ u.2.1 ≤ 9 ∧ 0 ≤ u.2.2.1 ∧ u.2.2.1 ≤ 940 ∧ 0 ≤ u.2.2.2.1 ∧ u.2.2.2.1 ≤ 940 ∧ 0 ≤ u.2.2.2.2.1 ∧ u.2.2.2.2.1 ≤ 5 ∧ wok T u.2.2.2.2.2.1 ∧ (-2147483648) ≤ u.2.2.2.2.2.2.2.2.1 ∧ u.2.2.2.2.2.2.2.2.1 ≤ 2147483647 ∧ (-2147483648) ≤ u.2.2.2.2.2.2.2.2.2.1 ∧ u.2.2.2.2.2.2.2.2.2.1 ≤ 2147483647 ∧ 0 ≤ u.2.2.2.2.2.2.2.2.2.2.1 ∧ u.2.2.2.2.2.2.2.2.2.2.1 ≤ 940 ∧ rng (-2147483648) 2147483647 u.2.2.2.2.2.2.2.2.2.2.2.2.1 ∧ rng (-2147483648) 2147483647 u.2.2.2.2.2.2.2.2.2.2.2.2.2.1 ∧ rng (-2147483648) 2147483647 u.2.2.2.2.2.2.2.2.2.2.2.2.2.2 ∧ (∀ (x : Tk × Int × Int) (rd : Int → Int) (h : Nat → Int64) (o : Int → Int), gC T x x13 x12 x11 y0 r0 x14 o0 → XW rd h o h0 f0 f1 f2 f3 f4 f5 h1 f6 x0 x1 x3 x4 x5 x6 x7 x8 → XP (sPerson f7 x9 x10 x rd h o) u.1 u.2.2.2.2.2.2.2.2.2.1 u.2.2.2.2.2.2.2.2.2.2.1 (fun y => gC T y u.2.2.2.2.1 u.2.2.2.1 u.2.2.1 u.2.2.2.2.2.2.1 u.2.2.2.2.2.2.2.1 u.2.2.2.2.2.2.2.2.1 u.2.2.2.2.2.1) (fun rd h o => XW rd h o u.2.2.2.2.2.2.2.2.2.2.2.1 u.2.2.2.2.2.2.2.2.2.2.2.2.1 u.2.2.2.2.2.2.2.2.2.2.2.2.2.1 u.2.2.2.2.2.2.2.2.2.2.2.2.2.2 f3 f4 f5 h1 f6 u.2.1 x1 x3 x4 x5 x6 x7 x8)) ∧ (kpB u.1 x15 u.2.2.2.2.2.2.2.2.2.1)) (fun u => [(a0, .inr (9, [.ref a2, .ref a3, .ref a4, .ref a5, .ref a6, .ref a7, .ref a8, .ref a9, .ref a10, .int (iI u.2.1), .int (iI x1), .int (iI x2), .int (iI x3), .int (iI x4), .int (iI x5), .int (iI x6), .int (iI x7), .int (iI x8)])), (a1, .inr (8, [.ref a11, .int (iI x9), .int (iI x10), .int (iI u.2.2.1), .int (iI u.2.2.2.1), .int (iI u.2.2.2.2.1), (va_rf u.2.2.2.2.2.1), .long u.2.2.2.2.2.2.1, .int u.2.2.2.2.2.2.2.1, .int (iI u.2.2.2.2.2.2.2.2.1), .int (iI u.2.2.2.2.2.2.2.2.2.1), .int (iI u.2.2.2.2.2.2.2.2.2.2.1)])), (a2, .inl (T 1, 9, .inr (.inl u.2.2.2.2.2.2.2.2.2.2.2.1))), (a3, .inl (T 0, 9, .inl (cI u.2.2.2.2.2.2.2.2.2.2.2.2.1))), (a4, .inl (T 0, 9, .inl (cI u.2.2.2.2.2.2.2.2.2.2.2.2.2.1))), (a5, .inl (T 0, 9, .inl (cI u.2.2.2.2.2.2.2.2.2.2.2.2.2.2))), (a6, .inl (T 0, 9, .inl (cI f3))), (a7, .inl (T 0, 9, .inl (cI f4))), (a8, .inl (T 0, 9, .inl (cI f5))), (a9, .inl (T 1, 3, .inr (.inl h1))), (a10, .inl (T 0, 3, .inl (cI f6))), (a11, .inl (T 0, 940, .inl (cI f7)))])) 0 0 (va_A [(a0, .inr (9, [.ref a2, .ref a3, .ref a4, .ref a5, .ref a6, .ref a7, .ref a8, .ref a9, .ref a10, .int (iI x0), .int (iI x1), .int (iI x2), .int (iI x3), .int (iI x4), .int (iI x5), .int (iI x6), .int (iI x7), .int (iI x8)])), (a1, .inr (8, [.ref a11, .int (iI x9), .int (iI x10), .int (iI x11), .int (iI x12), .int (iI x13), (va_rf o0), .long y0, .int r0, .int (iI x14), .int (iI x15), .int (iI x16)])), (a2, .inl (T 1, 9, .inr (.inl h0))), (a3, .inl (T 0, 9, .inl (cI f0))), (a4, .inl (T 0, 9, .inl (cI f1))), (a5, .inl (T 0, 9, .inl (cI f2))), (a6, .inl (T 0, 9, .inl (cI f3))), (a7, .inl (T 0, 9, .inl (cI f4))), (a8, .inl (T 0, 9, .inl (cI f5))), (a9, .inl (T 1, 3, .inr (.inl h1))), (a10, .inl (T 0, 3, .inl (cI f6))), (a11, .inl (T 0, 940, .inl (cI f7)))] sz) := by
  refine e_Z (by decide) (Nat.le_of_ble_eq_true rfl) ?_
  intro p e s m args below meth c A Q ls M hin w ret hl
  have hx := M.1.1
  have hb := M.1.2.1
  have hl : lv_has ls 2 [(0, .ref a0), (1, .ref a1)] := hl
  refine lv_aload_n hx hb dX9_readPerson_0 rfl (lv_at hl 0 rfl) ?_
  refine r_get (v := .int (iI x0)) M w 0 9 clX9 rfl (by decide) G387 rfl rfl dX9_readPerson_1 ?_
  refine lv_bipush (v := iI 9) hx hb dX9_readPerson_4 (by decide +kernel) ?_
  refine lv_icmp_lt (tgt := 15) hx hb dX9_readPerson_6 (by decide) (fun c_1 => ?_) (fun c_1 => ?_)
  · replace c_1 := (iI_lt (Int.le_trans (by decide) x0_a) (Int.le_trans x0_b (by decide)) (by decide) (by decide)).mp c_1
    refine lv_aload_n hx hb dX9_readPerson_15 rfl (lv_at hl 1 rfl) ?_
    refine k_V (ce := 0) (sl := 0) (rest := []) (wr := [(a0, .inr (9, [.ref a2, .ref a3, .ref a4, .ref a5, .ref a6, .ref a7, .ref a8, .ref a9, .ref a10, .int (iI x0), .int (iI x1), .int (iI x2), .int (iI x3), .int (iI x4), .int (iI x5), .int (iI x6), .int (iI x7), .int (iI x8)])), (a2, .inl (T 1, 9, .inr (.inl h0))), (a3, .inl (T 0, 9, .inl (cI f0))), (a4, .inl (T 0, 9, .inl (cI f1))), (a5, .inl (T 0, 9, .inl (cI f2))), (a6, .inl (T 0, 9, .inl (cI f3))), (a7, .inl (T 0, 9, .inl (cI f4))), (a8, .inl (T 0, 9, .inl (cI f5))), (a9, .inl (T 1, 3, .inr (.inl h1))), (a10, .inl (T 0, 3, .inl (cI f6)))]) (r_V (f := 4) [1, 11] M w V_HookedCity_Town_154 G587 G588 (c266_X8_step l D T _ a1 a11 x9 x10 x11 x12 x13 o0 y0 r0 x14 x15 x16 f7 x9_a x9_b x10_a x10_b x11_a x11_b x12_a x12_b x13_a x13_b o0_h x14_a x14_b x15_a x15_b x16_a x16_b f7_h) 1 clX8 rfl rfl (by decide) rfl hl.1 rfl (Nat.le_of_ble_eq_true rfl) dX9_readPerson_16 (by decide) (by decide) (by decide) (by decide)) w [1, 11] [0, 2, 3, 4, 5, 6, 7, 8, 9, 10] rfl rfl (by decide) (by decide) rfl rfl (fun u H locs hp w => ?_)
    obtain ⟨z2, z3, z4, fo5, fy6, fr7, z8⟩ := u
    have z2_a : 0 ≤ z2 := hp.1
    have z2_b : z2 ≤ 940 := hp.2.1
    have z3_a : 0 ≤ z3 := hp.2.2.1
    have z3_b : z3 ≤ 940 := hp.2.2.2.1
    have z4_a : 0 ≤ z4 := hp.2.2.2.2.1
    have z4_b : z4 ≤ 5 := hp.2.2.2.2.2.1
    have fo5_h : wok T fo5 := hp.2.2.2.2.2.2.1
    have z8_a : (-2147483648) ≤ z8 := hp.2.2.2.2.2.2.2.1
    have z8_b : z8 ≤ 2147483647 := hp.2.2.2.2.2.2.2.2.1
    have pq9 : gC T (tkAt f7 x9 x10 x11) z4 z3 z2 fy6 fr7 z8 fo5 := hp.2.2.2.2.2.2.2.2.2
    have w : WD D A s.heap [(a0, .inr (9, [.ref a2, .ref a3, .ref a4, .ref a5, .ref a6, .ref a7, .ref a8, .ref a9, .ref a10, .int (iI x0), .int (iI x1), .int (iI x2), .int (iI x3), .int (iI x4), .int (iI x5), .int (iI x6), .int (iI x7), .int (iI x8)])), (a2, .inl (T 1, 9, .inr (.inl h0))), (a3, .inl (T 0, 9, .inl (cI f0))), (a4, .inl (T 0, 9, .inl (cI f1))), (a5, .inl (T 0, 9, .inl (cI f2))), (a6, .inl (T 0, 9, .inl (cI f3))), (a7, .inl (T 0, 9, .inl (cI f4))), (a8, .inl (T 0, 9, .inl (cI f5))), (a9, .inl (T 1, 3, .inr (.inl h1))), (a10, .inl (T 0, 3, .inl (cI f6))), (a1, .inr (8, [.ref a11, .int (iI x9), .int (iI x10), .int (iI z2), .int (iI z3), .int (iI z4), (va_rf fo5), .long fy6, .int fr7, .int (iI z8), .int (iI x15), .int (iI x16)])), (a11, .inl (T 0, 940, .inl (cI f7)))] H locs := w
    refine lv_aload_n hx hb dX9_readPerson_19 rfl (lv_at hl 0 rfl) ?_
    refine lv_aload_n hx hb dX9_readPerson_20 rfl (lv_at hl 1 rfl) ?_
    refine k_I (ce := 0) (sl := 0) (rest := []) (wr := []) (r_V (f := 1) [0, 10, 1, 2, 3, 4, 5, 6, 7, 8, 9, 11] M w V_HookedCity_Town_157 G716 G5 (c288_X9_newNameAt l D T _ a0 a1 a2 a3 a4 a5 a6 a7 a8 a9 a10 x0 x1 x2 x3 x4 x5 x6 x7 x8 a11 x9 x10 z2 z3 z4 fo5 fy6 fr7 z8 x15 x16 h0 f0 f1 f2 f3 f4 f5 h1 f6 f7 x0_a x0_b x1_a x1_b x2_a x2_b x3_a x3_b x4_a x4_b x5_a x5_b x6_a x6_b x7_a x7_b x8_a x8_b x9_a x9_b x10_a x10_b z2_a z2_b z3_a z3_b z4_a z4_b fo5_h z8_a z8_b x15_a x15_b x16_a x16_b f0_h f1_h f2_h f3_h f4_h f5_h f6_h f7_h) 0 clX9 rfl rfl (by decide) rfl hl.1 rfl (Nat.le_of_ble_eq_true rfl) dX9_readPerson_21 (by decide) (by decide) (by decide) (by decide)) w [0, 10, 1, 2, 3, 4, 5, 6, 7, 8, 9, 11] [] rfl rfl (by decide) (by decide) rfl rfl (fun v u H locs hp w => ?_)
    obtain ⟨z10, z11, z12⟩ := u
    have hv : iI z10 = v := hp.1
    subst hv
    have z10_a : 0 ≤ z10 := hp.2.1
    have z10_b : z10 ≤ 1 := hp.2.2.1
    have z11_a : (-2147483648) ≤ z11 := hp.2.2.2.1
    have z11_b : z11 ≤ 2147483647 := hp.2.2.2.2.1
    have z12_a : 0 ≤ z12 := hp.2.2.2.2.2.1
    have z12_b : z12 ≤ 940 := hp.2.2.2.2.2.2.1
    have pq13 : ∀ (x : Tk × Int × Int) (rd : Int → Int) (h : Nat → Int64) (o : Int → Int), gC T x z4 z3 z2 fy6 fr7 z8 fo5 → XW rd h o h0 f0 f1 f2 f3 f4 f5 h1 f6 x0 x1 x3 x4 x5 x6 x7 x8 → RC (sChk rd h x) z10 z11 z12 := hp.2.2.2.2.2.2.2.1
    have pq14 : kpB z10 x15 z11 := hp.2.2.2.2.2.2.2.2
    have w : WD D A s.heap [(a0, .inr (9, [.ref a2, .ref a3, .ref a4, .ref a5, .ref a6, .ref a7, .ref a8, .ref a9, .ref a10, .int (iI x0), .int (iI x1), .int (iI x2), .int (iI x3), .int (iI x4), .int (iI x5), .int (iI x6), .int (iI x7), .int (iI x8)])), (a1, .inr (8, [.ref a11, .int (iI x9), .int (iI x10), .int (iI z2), .int (iI z3), .int (iI z4), (va_rf fo5), .long fy6, .int fr7, .int (iI z8), .int (iI z11), .int (iI z12)])), (a2, .inl (T 1, 9, .inr (.inl h0))), (a3, .inl (T 0, 9, .inl (cI f0))), (a4, .inl (T 0, 9, .inl (cI f1))), (a5, .inl (T 0, 9, .inl (cI f2))), (a6, .inl (T 0, 9, .inl (cI f3))), (a7, .inl (T 0, 9, .inl (cI f4))), (a8, .inl (T 0, 9, .inl (cI f5))), (a9, .inl (T 1, 3, .inr (.inl h1))), (a10, .inl (T 0, 3, .inl (cI f6))), (a11, .inl (T 0, 940, .inl (cI f7)))] H locs := w
    refine lv_if_ne (tgt := 29) hx hb dX9_readPerson_24 (by decide) (fun c_15 => ?_) (fun c_15 => ?_)
    · replace c_15 : ¬ z10 = 0 := fun h => c_15 ((iz_eq (Int.le_trans (by decide) z10_a) (Int.le_trans z10_b (by decide))).mpr h)
      refine lv_aload_n hx hb dX9_readPerson_29 rfl (lv_at hl 0 rfl) ?_
      refine r_get (v := .ref a2) M w 0 0 clX9 rfl (by decide) G366 rfl rfl dX9_readPerson_30 ?_
      refine lv_aload_n hx hb dX9_readPerson_33 rfl (lv_at hl 0 rfl) ?_
      refine r_get (v := .int (iI x0)) M w 0 9 clX9 rfl (by decide) G387 rfl rfl dX9_readPerson_34 ?_
      refine lv_aload_n hx hb dX9_readPerson_37 rfl (lv_at hl 1 rfl) ?_
      refine r_getN (v := .long fy6) M w 1 7 clX8 rfl (by decide) N175 rfl rfl dX9_readPerson_38 ?_
      refine r_last (ws' := [(a0, .inr (9, [.ref a2, .ref a3, .ref a4, .ref a5, .ref a6, .ref a7, .ref a8, .ref a9, .ref a10, .int (iI x0), .int (iI x1), .int (iI x2), .int (iI x3), .int (iI x4), .int (iI x5), .int (iI x6), .int (iI x7), .int (iI x8)])), (a1, .inr (8, [.ref a11, .int (iI x9), .int (iI x10), .int (iI z2), .int (iI z3), .int (iI z4), (va_rf fo5), .long fy6, .int fr7, .int (iI z8), .int (iI z11), .int (iI z12)])), (a2, .inl (T 1, 9, .inr (.inl (vp_updL h0 (Int32.toNatClampNeg (iI x0)) fy6)))), (a3, .inl (T 0, 9, .inl (cI f0))), (a4, .inl (T 0, 9, .inl (cI f1))), (a5, .inl (T 0, 9, .inl (cI f2))), (a6, .inl (T 0, 9, .inl (cI f3))), (a7, .inl (T 0, 9, .inl (cI f4))), (a8, .inl (T 0, 9, .inl (cI f5))), (a9, .inl (T 1, 3, .inr (.inl h1))), (a10, .inl (T 0, 3, .inl (cI f6))), (a11, .inl (T 0, 940, .inl (cI f7)))]) M w 2 rfl (iI_in (by omega) (by omega) (by decide)) rfl dX9_readPerson_41 (fun H locs w => ?_)
      refine lv_aload_n hx hb dX9_readPerson_42 rfl (lv_at hl 1 rfl) ?_
      refine k_V (ce := 0) (sl := 0) (rest := []) (wr := [(a0, .inr (9, [.ref a2, .ref a3, .ref a4, .ref a5, .ref a6, .ref a7, .ref a8, .ref a9, .ref a10, .int (iI x0), .int (iI x1), .int (iI x2), .int (iI x3), .int (iI x4), .int (iI x5), .int (iI x6), .int (iI x7), .int (iI x8)])), (a2, .inl (T 1, 9, .inr (.inl (vp_updL h0 (Int32.toNatClampNeg (iI x0)) fy6)))), (a3, .inl (T 0, 9, .inl (cI f0))), (a4, .inl (T 0, 9, .inl (cI f1))), (a5, .inl (T 0, 9, .inl (cI f2))), (a6, .inl (T 0, 9, .inl (cI f3))), (a7, .inl (T 0, 9, .inl (cI f4))), (a8, .inl (T 0, 9, .inl (cI f5))), (a9, .inl (T 1, 3, .inr (.inl h1))), (a10, .inl (T 0, 3, .inl (cI f6)))]) (r_V (f := 4) [1, 11] M w V_HookedCity_Town_154 G587 G588 (c266_X8_step l D T _ a1 a11 x9 x10 z2 z3 z4 fo5 fy6 fr7 z8 z11 z12 f7 x9_a x9_b x10_a x10_b z2_a z2_b z3_a z3_b z4_a z4_b fo5_h z8_a z8_b z11_a z11_b z12_a z12_b f7_h) 1 clX8 rfl rfl (by decide) rfl hl.1 rfl (Nat.le_of_ble_eq_true rfl) dX9_readPerson_43 (by decide) (by decide) (by decide) (by decide)) w [1, 11] [0, 2, 3, 4, 5, 6, 7, 8, 9, 10] rfl rfl (by decide) (by decide) rfl rfl (fun u H locs hp w => ?_)
      obtain ⟨z16, z17, z18, fo19, fy20, fr21, z22⟩ := u
      have z16_a : 0 ≤ z16 := hp.1
      have z16_b : z16 ≤ 940 := hp.2.1
      have z17_a : 0 ≤ z17 := hp.2.2.1
      have z17_b : z17 ≤ 940 := hp.2.2.2.1
      have z18_a : 0 ≤ z18 := hp.2.2.2.2.1
      have z18_b : z18 ≤ 5 := hp.2.2.2.2.2.1
      have fo19_h : wok T fo19 := hp.2.2.2.2.2.2.1
      have z22_a : (-2147483648) ≤ z22 := hp.2.2.2.2.2.2.2.1
      have z22_b : z22 ≤ 2147483647 := hp.2.2.2.2.2.2.2.2.1
      have pq23 : gC T (tkAt f7 x9 x10 z2) z18 z17 z16 fy20 fr21 z22 fo19 := hp.2.2.2.2.2.2.2.2.2
      have w : WD D A s.heap [(a0, .inr (9, [.ref a2, .ref a3, .ref a4, .ref a5, .ref a6, .ref a7, .ref a8, .ref a9, .ref a10, .int (iI x0), .int (iI x1), .int (iI x2), .int (iI x3), .int (iI x4), .int (iI x5), .int (iI x6), .int (iI x7), .int (iI x8)])), (a2, .inl (T 1, 9, .inr (.inl (vp_updL h0 (Int32.toNatClampNeg (iI x0)) fy6)))), (a3, .inl (T 0, 9, .inl (cI f0))), (a4, .inl (T 0, 9, .inl (cI f1))), (a5, .inl (T 0, 9, .inl (cI f2))), (a6, .inl (T 0, 9, .inl (cI f3))), (a7, .inl (T 0, 9, .inl (cI f4))), (a8, .inl (T 0, 9, .inl (cI f5))), (a9, .inl (T 1, 3, .inr (.inl h1))), (a10, .inl (T 0, 3, .inl (cI f6))), (a1, .inr (8, [.ref a11, .int (iI x9), .int (iI x10), .int (iI z16), .int (iI z17), .int (iI z18), (va_rf fo19), .long fy20, .int fr21, .int (iI z22), .int (iI z11), .int (iI z12)])), (a11, .inl (T 0, 940, .inl (cI f7)))] H locs := w
      refine lv_aload_n hx hb dX9_readPerson_46 rfl (lv_at hl 0 rfl) ?_
      refine r_get (v := .ref a3) M w 0 1 clX9 rfl (by decide) G368 rfl rfl dX9_readPerson_47 ?_
      refine lv_aload_n hx hb dX9_readPerson_50 rfl (lv_at hl 0 rfl) ?_
      refine r_get (v := .int (iI x0)) M w 0 9 clX9 rfl (by decide) G387 rfl rfl dX9_readPerson_51 ?_
      refine lv_aload_n hx hb dX9_readPerson_54 rfl (lv_at hl 0 rfl) ?_
      refine lv_aload_n hx hb dX9_readPerson_55 rfl (lv_at hl 1 rfl) ?_
      refine k_I (ce := 0) (sl := 0) (rest := [.int (iI x0), .ref a3]) (wr := [(a0, .inr (9, [.ref a2, .ref a3, .ref a4, .ref a5, .ref a6, .ref a7, .ref a8, .ref a9, .ref a10, .int (iI x0), .int (iI x1), .int (iI x2), .int (iI x3), .int (iI x4), .int (iI x5), .int (iI x6), .int (iI x7), .int (iI x8)])), (a2, .inl (T 1, 9, .inr (.inl (vp_updL h0 (Int32.toNatClampNeg (iI x0)) fy6)))), (a3, .inl (T 0, 9, .inl (cI f0))), (a4, .inl (T 0, 9, .inl (cI f1))), (a5, .inl (T 0, 9, .inl (cI f2))), (a6, .inl (T 0, 9, .inl (cI f3))), (a7, .inl (T 0, 9, .inl (cI f4))), (a8, .inl (T 0, 9, .inl (cI f5))), (a9, .inl (T 1, 3, .inr (.inl h1))), (a10, .inl (T 0, 3, .inl (cI f6)))]) (r_V (f := 1) [10, 11] M w V_HookedCity_Town_164 G723 G6 (c290_X9_kindAt l D T _ a0 a1 a11 x9 x10 z16 z17 z18 fo19 fy20 fr21 z22 z11 z12 f7 x9_a x9_b x10_a x10_b z16_a z16_b z17_a z17_b z18_a z18_b fo19_h z22_a z22_b z11_a z11_b z12_a z12_b f7_h) 0 clX9 rfl rfl (by decide) rfl hl.1 rfl (Nat.le_of_ble_eq_true rfl) dX9_readPerson_56 (by decide) (by decide) (by decide) (by decide)) w [10, 11] [0, 1, 2, 3, 4, 5, 6, 7, 8, 9] rfl rfl (by decide) (by decide) rfl rfl (fun v u H locs hp w => ?_)
      obtain ⟨z24, fo25, z26, z27⟩ := u
      have hv : iI z24 = v := hp.1
      subst hv
      have z24_a : (-2147483648) ≤ z24 := hp.2.1
      have z24_b : z24 ≤ 2147483647 := hp.2.2.1
      have fo25_h : wok T fo25 := hp.2.2.2.1
      have z26_a : (-2147483648) ≤ z26 := hp.2.2.2.2.1
      have z26_b : z26 ≤ 2147483647 := hp.2.2.2.2.2.1
      have z27_a : 0 ≤ z27 := hp.2.2.2.2.2.2.1
      have z27_b : z27 ≤ 940 := hp.2.2.2.2.2.2.2.1
      have pq28 : ∀ x : Tk × Int × Int, gC T x z18 z17 z16 fy20 fr21 z22 fo19 → XV (sKd x) z24 z26 z27 := hp.2.2.2.2.2.2.2.2.1
      have pq29 : kpF z24 z11 z26 := hp.2.2.2.2.2.2.2.2.2
      have w : WD D A s.heap [(a0, .inr (9, [.ref a2, .ref a3, .ref a4, .ref a5, .ref a6, .ref a7, .ref a8, .ref a9, .ref a10, .int (iI x0), .int (iI x1), .int (iI x2), .int (iI x3), .int (iI x4), .int (iI x5), .int (iI x6), .int (iI x7), .int (iI x8)])), (a2, .inl (T 1, 9, .inr (.inl (vp_updL h0 (Int32.toNatClampNeg (iI x0)) fy6)))), (a3, .inl (T 0, 9, .inl (cI f0))), (a4, .inl (T 0, 9, .inl (cI f1))), (a5, .inl (T 0, 9, .inl (cI f2))), (a6, .inl (T 0, 9, .inl (cI f3))), (a7, .inl (T 0, 9, .inl (cI f4))), (a8, .inl (T 0, 9, .inl (cI f5))), (a9, .inl (T 1, 3, .inr (.inl h1))), (a10, .inl (T 0, 3, .inl (cI f6))), (a1, .inr (8, [.ref a11, .int (iI x9), .int (iI x10), .int (iI z16), .int (iI z17), .int (iI z18), (va_rf fo25), .long fy20, .int fr21, .int (iI z22), .int (iI z26), .int (iI z27)])), (a11, .inl (T 0, 940, .inl (cI f7)))] H locs := w
      refine r_iast (ws' := [(a0, .inr (9, [.ref a2, .ref a3, .ref a4, .ref a5, .ref a6, .ref a7, .ref a8, .ref a9, .ref a10, .int (iI x0), .int (iI x1), .int (iI x2), .int (iI x3), .int (iI x4), .int (iI x5), .int (iI x6), .int (iI x7), .int (iI x8)])), (a2, .inl (T 1, 9, .inr (.inl (vp_updL h0 (Int32.toNatClampNeg (iI x0)) fy6)))), (a3, .inl (T 0, 9, .inl (cI (upz f0 x0 z24)))), (a4, .inl (T 0, 9, .inl (cI f1))), (a5, .inl (T 0, 9, .inl (cI f2))), (a6, .inl (T 0, 9, .inl (cI f3))), (a7, .inl (T 0, 9, .inl (cI f4))), (a8, .inl (T 0, 9, .inl (cI f5))), (a9, .inl (T 1, 3, .inr (.inl h1))), (a10, .inl (T 0, 3, .inl (cI f6))), (a1, .inr (8, [.ref a11, .int (iI x9), .int (iI x10), .int (iI z16), .int (iI z17), .int (iI z18), (va_rf fo25), .long fy20, .int fr21, .int (iI z22), .int (iI z26), .int (iI z27)])), (a11, .inl (T 0, 940, .inl (cI f7)))]) M w 2 rfl (iI_in (by omega) (by omega) (by decide)) (by rw [cI_up (by omega) (by omega)]; rfl) dX9_readPerson_59 (fun H locs w => ?_)
      refine lv_aload_n hx hb dX9_readPerson_60 rfl (lv_at hl 0 rfl) ?_
      refine r_get (v := .ref a3) M w 0 1 clX9 rfl (by decide) G368 rfl rfl dX9_readPerson_61 ?_
      refine lv_aload_n hx hb dX9_readPerson_64 rfl (lv_at hl 0 rfl) ?_
      refine r_get (v := .int (iI x0)) M w 0 9 clX9 rfl (by decide) G387 rfl rfl dX9_readPerson_65 ?_
      refine r_iald (v := iI z24) M w 2 rfl (iI_in (by omega) (by omega) (by decide)) ((cI_at (by omega) (by omega)).trans (congrArg iI (by rw [upz_s]))) dX9_readPerson_68 ?_
      refine lv_iconst (v := iI (-1)) hx hb dX9_readPerson_69 (by decide +kernel) ?_
      refine lv_icmp_ne (tgt := 75) hx hb dX9_readPerson_70 (by decide) (fun c_30 => ?_) (fun c_30 => ?_)
      · replace c_30 : ¬ z24 = (-1) := fun h => c_30 ((iI_eq (Int.le_trans (by decide) z24_a) (Int.le_trans z24_b (by decide)) (by decide) (by decide)).mpr h)
        refine lv_aload_n hx hb dX9_readPerson_75 rfl (lv_at hl 1 rfl) ?_
        refine k_V (ce := 0) (sl := 0) (rest := []) (wr := [(a0, .inr (9, [.ref a2, .ref a3, .ref a4, .ref a5, .ref a6, .ref a7, .ref a8, .ref a9, .ref a10, .int (iI x0), .int (iI x1), .int (iI x2), .int (iI x3), .int (iI x4), .int (iI x5), .int (iI x6), .int (iI x7), .int (iI x8)])), (a2, .inl (T 1, 9, .inr (.inl (vp_updL h0 (Int32.toNatClampNeg (iI x0)) fy6)))), (a3, .inl (T 0, 9, .inl (cI (upz f0 x0 z24)))), (a4, .inl (T 0, 9, .inl (cI f1))), (a5, .inl (T 0, 9, .inl (cI f2))), (a6, .inl (T 0, 9, .inl (cI f3))), (a7, .inl (T 0, 9, .inl (cI f4))), (a8, .inl (T 0, 9, .inl (cI f5))), (a9, .inl (T 1, 3, .inr (.inl h1))), (a10, .inl (T 0, 3, .inl (cI f6)))]) (r_V (f := 4) [10, 11] M w V_HookedCity_Town_154 G587 G588 (c266_X8_step l D T _ a1 a11 x9 x10 z16 z17 z18 fo25 fy20 fr21 z22 z26 z27 f7 x9_a x9_b x10_a x10_b z16_a z16_b z17_a z17_b z18_a z18_b fo25_h z22_a z22_b z26_a z26_b z27_a z27_b f7_h) 10 clX8 rfl rfl (by decide) rfl hl.1 rfl (Nat.le_of_ble_eq_true rfl) dX9_readPerson_76 (by decide) (by decide) (by decide) (by decide)) w [10, 11] [0, 1, 2, 3, 4, 5, 6, 7, 8, 9] rfl rfl (by decide) (by decide) rfl rfl (fun u H locs hp w => ?_)
        obtain ⟨z31, z32, z33, fo34, fy35, fr36, z37⟩ := u
        have z31_a : 0 ≤ z31 := hp.1
        have z31_b : z31 ≤ 940 := hp.2.1
        have z32_a : 0 ≤ z32 := hp.2.2.1
        have z32_b : z32 ≤ 940 := hp.2.2.2.1
        have z33_a : 0 ≤ z33 := hp.2.2.2.2.1
        have z33_b : z33 ≤ 5 := hp.2.2.2.2.2.1
        have fo34_h : wok T fo34 := hp.2.2.2.2.2.2.1
        have z37_a : (-2147483648) ≤ z37 := hp.2.2.2.2.2.2.2.1
        have z37_b : z37 ≤ 2147483647 := hp.2.2.2.2.2.2.2.2.1
        have pq38 : gC T (tkAt f7 x9 x10 z16) z33 z32 z31 fy35 fr36 z37 fo34 := hp.2.2.2.2.2.2.2.2.2
        have w : WD D A s.heap [(a0, .inr (9, [.ref a2, .ref a3, .ref a4, .ref a5, .ref a6, .ref a7, .ref a8, .ref a9, .ref a10, .int (iI x0), .int (iI x1), .int (iI x2), .int (iI x3), .int (iI x4), .int (iI x5), .int (iI x6), .int (iI x7), .int (iI x8)])), (a2, .inl (T 1, 9, .inr (.inl (vp_updL h0 (Int32.toNatClampNeg (iI x0)) fy6)))), (a3, .inl (T 0, 9, .inl (cI (upz f0 x0 z24)))), (a4, .inl (T 0, 9, .inl (cI f1))), (a5, .inl (T 0, 9, .inl (cI f2))), (a6, .inl (T 0, 9, .inl (cI f3))), (a7, .inl (T 0, 9, .inl (cI f4))), (a8, .inl (T 0, 9, .inl (cI f5))), (a9, .inl (T 1, 3, .inr (.inl h1))), (a10, .inl (T 0, 3, .inl (cI f6))), (a1, .inr (8, [.ref a11, .int (iI x9), .int (iI x10), .int (iI z31), .int (iI z32), .int (iI z33), (va_rf fo34), .long fy35, .int fr36, .int (iI z37), .int (iI z26), .int (iI z27)])), (a11, .inl (T 0, 940, .inl (cI f7)))] H locs := w
        refine lv_aload_n hx hb dX9_readPerson_79 rfl (lv_at hl 0 rfl) ?_
        refine r_get (v := .ref a4) M w 0 2 clX9 rfl (by decide) G370 rfl rfl dX9_readPerson_80 ?_
        refine lv_aload_n hx hb dX9_readPerson_83 rfl (lv_at hl 0 rfl) ?_
        refine r_get (v := .int (iI x0)) M w 0 9 clX9 rfl (by decide) G387 rfl rfl dX9_readPerson_84 ?_
        refine lv_aload_n hx hb dX9_readPerson_87 rfl (lv_at hl 0 rfl) ?_
        refine lv_aload_n hx hb dX9_readPerson_88 rfl (lv_at hl 1 rfl) ?_
        refine k_I (ce := 0) (sl := 0) (rest := [.int (iI x0), .ref a4]) (wr := [(a0, .inr (9, [.ref a2, .ref a3, .ref a4, .ref a5, .ref a6, .ref a7, .ref a8, .ref a9, .ref a10, .int (iI x0), .int (iI x1), .int (iI x2), .int (iI x3), .int (iI x4), .int (iI x5), .int (iI x6), .int (iI x7), .int (iI x8)])), (a2, .inl (T 1, 9, .inr (.inl (vp_updL h0 (Int32.toNatClampNeg (iI x0)) fy6)))), (a3, .inl (T 0, 9, .inl (cI (upz f0 x0 z24)))), (a4, .inl (T 0, 9, .inl (cI f1))), (a5, .inl (T 0, 9, .inl (cI f2))), (a6, .inl (T 0, 9, .inl (cI f3))), (a7, .inl (T 0, 9, .inl (cI f4))), (a8, .inl (T 0, 9, .inl (cI f5))), (a9, .inl (T 1, 3, .inr (.inl h1))), (a10, .inl (T 0, 3, .inl (cI f6)))]) (r_V (f := 1) [10, 11] M w V_HookedCity_Town_164 G723 G6 (c290_X9_kindAt l D T _ a0 a1 a11 x9 x10 z31 z32 z33 fo34 fy35 fr36 z37 z26 z27 f7 x9_a x9_b x10_a x10_b z31_a z31_b z32_a z32_b z33_a z33_b fo34_h z37_a z37_b z26_a z26_b z27_a z27_b f7_h) 0 clX9 rfl rfl (by decide) rfl hl.1 rfl (Nat.le_of_ble_eq_true rfl) dX9_readPerson_89 (by decide) (by decide) (by decide) (by decide)) w [10, 11] [0, 1, 2, 3, 4, 5, 6, 7, 8, 9] rfl rfl (by decide) (by decide) rfl rfl (fun v u H locs hp w => ?_)
        obtain ⟨z39, fo40, z41, z42⟩ := u
        have hv : iI z39 = v := hp.1
        subst hv
        have z39_a : (-2147483648) ≤ z39 := hp.2.1
        have z39_b : z39 ≤ 2147483647 := hp.2.2.1
        have fo40_h : wok T fo40 := hp.2.2.2.1
        have z41_a : (-2147483648) ≤ z41 := hp.2.2.2.2.1
        have z41_b : z41 ≤ 2147483647 := hp.2.2.2.2.2.1
        have z42_a : 0 ≤ z42 := hp.2.2.2.2.2.2.1
        have z42_b : z42 ≤ 940 := hp.2.2.2.2.2.2.2.1
        have pq43 : ∀ x : Tk × Int × Int, gC T x z33 z32 z31 fy35 fr36 z37 fo34 → XV (sKd x) z39 z41 z42 := hp.2.2.2.2.2.2.2.2.1
        have pq44 : kpF z39 z26 z41 := hp.2.2.2.2.2.2.2.2.2
        have w : WD D A s.heap [(a0, .inr (9, [.ref a2, .ref a3, .ref a4, .ref a5, .ref a6, .ref a7, .ref a8, .ref a9, .ref a10, .int (iI x0), .int (iI x1), .int (iI x2), .int (iI x3), .int (iI x4), .int (iI x5), .int (iI x6), .int (iI x7), .int (iI x8)])), (a2, .inl (T 1, 9, .inr (.inl (vp_updL h0 (Int32.toNatClampNeg (iI x0)) fy6)))), (a3, .inl (T 0, 9, .inl (cI (upz f0 x0 z24)))), (a4, .inl (T 0, 9, .inl (cI f1))), (a5, .inl (T 0, 9, .inl (cI f2))), (a6, .inl (T 0, 9, .inl (cI f3))), (a7, .inl (T 0, 9, .inl (cI f4))), (a8, .inl (T 0, 9, .inl (cI f5))), (a9, .inl (T 1, 3, .inr (.inl h1))), (a10, .inl (T 0, 3, .inl (cI f6))), (a1, .inr (8, [.ref a11, .int (iI x9), .int (iI x10), .int (iI z31), .int (iI z32), .int (iI z33), (va_rf fo40), .long fy35, .int fr36, .int (iI z37), .int (iI z41), .int (iI z42)])), (a11, .inl (T 0, 940, .inl (cI f7)))] H locs := w
        refine r_iast (ws' := [(a0, .inr (9, [.ref a2, .ref a3, .ref a4, .ref a5, .ref a6, .ref a7, .ref a8, .ref a9, .ref a10, .int (iI x0), .int (iI x1), .int (iI x2), .int (iI x3), .int (iI x4), .int (iI x5), .int (iI x6), .int (iI x7), .int (iI x8)])), (a2, .inl (T 1, 9, .inr (.inl (vp_updL h0 (Int32.toNatClampNeg (iI x0)) fy6)))), (a3, .inl (T 0, 9, .inl (cI (upz f0 x0 z24)))), (a4, .inl (T 0, 9, .inl (cI (upz f1 x0 z39)))), (a5, .inl (T 0, 9, .inl (cI f2))), (a6, .inl (T 0, 9, .inl (cI f3))), (a7, .inl (T 0, 9, .inl (cI f4))), (a8, .inl (T 0, 9, .inl (cI f5))), (a9, .inl (T 1, 3, .inr (.inl h1))), (a10, .inl (T 0, 3, .inl (cI f6))), (a1, .inr (8, [.ref a11, .int (iI x9), .int (iI x10), .int (iI z31), .int (iI z32), .int (iI z33), (va_rf fo40), .long fy35, .int fr36, .int (iI z37), .int (iI z41), .int (iI z42)])), (a11, .inl (T 0, 940, .inl (cI f7)))]) M w 3 rfl (iI_in (by omega) (by omega) (by decide)) (by rw [cI_up (by omega) (by omega)]; rfl) dX9_readPerson_92 (fun H locs w => ?_)
        refine lv_aload_n hx hb dX9_readPerson_93 rfl (lv_at hl 0 rfl) ?_
        refine r_get (v := .ref a4) M w 0 2 clX9 rfl (by decide) G370 rfl rfl dX9_readPerson_94 ?_
        refine lv_aload_n hx hb dX9_readPerson_97 rfl (lv_at hl 0 rfl) ?_
        refine r_get (v := .int (iI x0)) M w 0 9 clX9 rfl (by decide) G387 rfl rfl dX9_readPerson_98 ?_
        refine r_iald (v := iI z39) M w 3 rfl (iI_in (by omega) (by omega) (by decide)) ((cI_at (by omega) (by omega)).trans (congrArg iI (by rw [upz_s]))) dX9_readPerson_101 ?_
        refine lv_iconst (v := iI (-1)) hx hb dX9_readPerson_102 (by decide +kernel) ?_
        refine lv_icmp_ne (tgt := 108) hx hb dX9_readPerson_103 (by decide) (fun c_45 => ?_) (fun c_45 => ?_)
        · replace c_45 : ¬ z39 = (-1) := fun h => c_45 ((iI_eq (Int.le_trans (by decide) z39_a) (Int.le_trans z39_b (by decide)) (by decide) (by decide)).mpr h)
          refine lv_aload_n hx hb dX9_readPerson_108 rfl (lv_at hl 1 rfl) ?_
          refine k_V (ce := 0) (sl := 0) (rest := []) (wr := [(a0, .inr (9, [.ref a2, .ref a3, .ref a4, .ref a5, .ref a6, .ref a7, .ref a8, .ref a9, .ref a10, .int (iI x0), .int (iI x1), .int (iI x2), .int (iI x3), .int (iI x4), .int (iI x5), .int (iI x6), .int (iI x7), .int (iI x8)])), (a2, .inl (T 1, 9, .inr (.inl (vp_updL h0 (Int32.toNatClampNeg (iI x0)) fy6)))), (a3, .inl (T 0, 9, .inl (cI (upz f0 x0 z24)))), (a4, .inl (T 0, 9, .inl (cI (upz f1 x0 z39)))), (a5, .inl (T 0, 9, .inl (cI f2))), (a6, .inl (T 0, 9, .inl (cI f3))), (a7, .inl (T 0, 9, .inl (cI f4))), (a8, .inl (T 0, 9, .inl (cI f5))), (a9, .inl (T 1, 3, .inr (.inl h1))), (a10, .inl (T 0, 3, .inl (cI f6)))]) (r_V (f := 4) [10, 11] M w V_HookedCity_Town_154 G587 G588 (c266_X8_step l D T _ a1 a11 x9 x10 z31 z32 z33 fo40 fy35 fr36 z37 z41 z42 f7 x9_a x9_b x10_a x10_b z31_a z31_b z32_a z32_b z33_a z33_b fo40_h z37_a z37_b z41_a z41_b z42_a z42_b f7_h) 10 clX8 rfl rfl (by decide) rfl hl.1 rfl (Nat.le_of_ble_eq_true rfl) dX9_readPerson_109 (by decide) (by decide) (by decide) (by decide)) w [10, 11] [0, 1, 2, 3, 4, 5, 6, 7, 8, 9] rfl rfl (by decide) (by decide) rfl rfl (fun u H locs hp w => ?_)
          obtain ⟨z46, z47, z48, fo49, fy50, fr51, z52⟩ := u
          have z46_a : 0 ≤ z46 := hp.1
          have z46_b : z46 ≤ 940 := hp.2.1
          have z47_a : 0 ≤ z47 := hp.2.2.1
          have z47_b : z47 ≤ 940 := hp.2.2.2.1
          have z48_a : 0 ≤ z48 := hp.2.2.2.2.1
          have z48_b : z48 ≤ 5 := hp.2.2.2.2.2.1
          have fo49_h : wok T fo49 := hp.2.2.2.2.2.2.1
          have z52_a : (-2147483648) ≤ z52 := hp.2.2.2.2.2.2.2.1
          have z52_b : z52 ≤ 2147483647 := hp.2.2.2.2.2.2.2.2.1
          have pq53 : gC T (tkAt f7 x9 x10 z31) z48 z47 z46 fy50 fr51 z52 fo49 := hp.2.2.2.2.2.2.2.2.2
          have w : WD D A s.heap [(a0, .inr (9, [.ref a2, .ref a3, .ref a4, .ref a5, .ref a6, .ref a7, .ref a8, .ref a9, .ref a10, .int (iI x0), .int (iI x1), .int (iI x2), .int (iI x3), .int (iI x4), .int (iI x5), .int (iI x6), .int (iI x7), .int (iI x8)])), (a2, .inl (T 1, 9, .inr (.inl (vp_updL h0 (Int32.toNatClampNeg (iI x0)) fy6)))), (a3, .inl (T 0, 9, .inl (cI (upz f0 x0 z24)))), (a4, .inl (T 0, 9, .inl (cI (upz f1 x0 z39)))), (a5, .inl (T 0, 9, .inl (cI f2))), (a6, .inl (T 0, 9, .inl (cI f3))), (a7, .inl (T 0, 9, .inl (cI f4))), (a8, .inl (T 0, 9, .inl (cI f5))), (a9, .inl (T 1, 3, .inr (.inl h1))), (a10, .inl (T 0, 3, .inl (cI f6))), (a1, .inr (8, [.ref a11, .int (iI x9), .int (iI x10), .int (iI z46), .int (iI z47), .int (iI z48), (va_rf fo49), .long fy50, .int fr51, .int (iI z52), .int (iI z41), .int (iI z42)])), (a11, .inl (T 0, 940, .inl (cI f7)))] H locs := w
          refine lv_aload_n hx hb dX9_readPerson_112 rfl (lv_at hl 0 rfl) ?_
          refine r_get (v := .ref a5) M w 0 3 clX9 rfl (by decide) G372 rfl rfl dX9_readPerson_113 ?_
          refine lv_aload_n hx hb dX9_readPerson_116 rfl (lv_at hl 0 rfl) ?_
          refine r_get (v := .int (iI x0)) M w 0 9 clX9 rfl (by decide) G387 rfl rfl dX9_readPerson_117 ?_
          refine lv_aload_n hx hb dX9_readPerson_120 rfl (lv_at hl 1 rfl) ?_
          refine lv_iconst (v := iI 1) hx hb dX9_readPerson_121 (by decide +kernel) ?_
          refine lv_bipush (v := iI 9) hx hb dX9_readPerson_122 (by decide +kernel) ?_
          refine k_I (ce := 0) (sl := 0) (rest := [.int (iI x0), .ref a5]) (wr := [(a0, .inr (9, [.ref a2, .ref a3, .ref a4, .ref a5, .ref a6, .ref a7, .ref a8, .ref a9, .ref a10, .int (iI x0), .int (iI x1), .int (iI x2), .int (iI x3), .int (iI x4), .int (iI x5), .int (iI x6), .int (iI x7), .int (iI x8)])), (a2, .inl (T 1, 9, .inr (.inl (vp_updL h0 (Int32.toNatClampNeg (iI x0)) fy6)))), (a3, .inl (T 0, 9, .inl (cI (upz f0 x0 z24)))), (a4, .inl (T 0, 9, .inl (cI (upz f1 x0 z39)))), (a5, .inl (T 0, 9, .inl (cI f2))), (a6, .inl (T 0, 9, .inl (cI f3))), (a7, .inl (T 0, 9, .inl (cI f4))), (a8, .inl (T 0, 9, .inl (cI f5))), (a9, .inl (T 1, 3, .inr (.inl h1))), (a10, .inl (T 0, 3, .inl (cI f6))), (a11, .inl (T 0, 940, .inl (cI f7)))]) (r_V (f := 1) [10] M w V_HookedCity_Town_168 G726 G727 (c273_X8_numberAt l D T _ a1 1 9 a11 x9 x10 z46 z47 z48 fo49 fy50 fr51 z52 z41 z42 (by decide) (by decide) (by decide) (by decide) x9_a x9_b x10_a x10_b z46_a z46_b z47_a z47_b z48_a z48_b fo49_h z52_a z52_b z41_a z41_b z42_a z42_b) 10 clX8 rfl rfl (by decide) rfl hl.1 rfl (Nat.le_of_ble_eq_true rfl) dX9_readPerson_124 (by decide) (by decide) (by decide) (by decide)) w [10] [0, 1, 2, 3, 4, 5, 6, 7, 8, 9, 11] rfl rfl (by decide) (by decide) rfl rfl (fun v u H locs hp w => ?_)
          obtain ⟨z54, z55, z56⟩ := u
          have hv : iI z54 = v := hp.1
          subst hv
          have z54_a : (-2147483648) ≤ z54 := hp.2.1
          have z54_b : z54 ≤ 2147483647 := hp.2.2.1
          have z55_a : (-2147483648) ≤ z55 := hp.2.2.2.1
          have z55_b : z55 ≤ 2147483647 := hp.2.2.2.2.1
          have z56_a : 0 ≤ z56 := hp.2.2.2.2.2.1
          have z56_b : z56 ≤ 940 := hp.2.2.2.2.2.2.1
          have pq57 : ∀ x : Tk × Int × Int, gC T x z48 z47 z46 fy50 fr51 z52 fo49 → XV (sNu 1 9 x) z54 z55 z56 := hp.2.2.2.2.2.2.2.1
          have pq58 : kpF z54 z41 z55 := hp.2.2.2.2.2.2.2.2
          have w : WD D A s.heap [(a0, .inr (9, [.ref a2, .ref a3, .ref a4, .ref a5, .ref a6, .ref a7, .ref a8, .ref a9, .ref a10, .int (iI x0), .int (iI x1), .int (iI x2), .int (iI x3), .int (iI x4), .int (iI x5), .int (iI x6), .int (iI x7), .int (iI x8)])), (a2, .inl (T 1, 9, .inr (.inl (vp_updL h0 (Int32.toNatClampNeg (iI x0)) fy6)))), (a3, .inl (T 0, 9, .inl (cI (upz f0 x0 z24)))), (a4, .inl (T 0, 9, .inl (cI (upz f1 x0 z39)))), (a5, .inl (T 0, 9, .inl (cI f2))), (a6, .inl (T 0, 9, .inl (cI f3))), (a7, .inl (T 0, 9, .inl (cI f4))), (a8, .inl (T 0, 9, .inl (cI f5))), (a9, .inl (T 1, 3, .inr (.inl h1))), (a10, .inl (T 0, 3, .inl (cI f6))), (a11, .inl (T 0, 940, .inl (cI f7))), (a1, .inr (8, [.ref a11, .int (iI x9), .int (iI x10), .int (iI z46), .int (iI z47), .int (iI z48), (va_rf fo49), .long fy50, .int fr51, .int (iI z52), .int (iI z55), .int (iI z56)]))] H locs := w
          refine r_iast (ws' := [(a0, .inr (9, [.ref a2, .ref a3, .ref a4, .ref a5, .ref a6, .ref a7, .ref a8, .ref a9, .ref a10, .int (iI x0), .int (iI x1), .int (iI x2), .int (iI x3), .int (iI x4), .int (iI x5), .int (iI x6), .int (iI x7), .int (iI x8)])), (a2, .inl (T 1, 9, .inr (.inl (vp_updL h0 (Int32.toNatClampNeg (iI x0)) fy6)))), (a3, .inl (T 0, 9, .inl (cI (upz f0 x0 z24)))), (a4, .inl (T 0, 9, .inl (cI (upz f1 x0 z39)))), (a5, .inl (T 0, 9, .inl (cI (upz f2 x0 z54)))), (a6, .inl (T 0, 9, .inl (cI f3))), (a7, .inl (T 0, 9, .inl (cI f4))), (a8, .inl (T 0, 9, .inl (cI f5))), (a9, .inl (T 1, 3, .inr (.inl h1))), (a10, .inl (T 0, 3, .inl (cI f6))), (a11, .inl (T 0, 940, .inl (cI f7))), (a1, .inr (8, [.ref a11, .int (iI x9), .int (iI x10), .int (iI z46), .int (iI z47), .int (iI z48), (va_rf fo49), .long fy50, .int fr51, .int (iI z52), .int (iI z55), .int (iI z56)]))]) M w 4 rfl (iI_in (by omega) (by omega) (by decide)) (by rw [cI_up (by omega) (by omega)]; rfl) dX9_readPerson_127 (fun H locs w => ?_)
          refine lv_aload_n hx hb dX9_readPerson_128 rfl (lv_at hl 0 rfl) ?_
          refine r_get (v := .ref a5) M w 0 3 clX9 rfl (by decide) G372 rfl rfl dX9_readPerson_129 ?_
          refine lv_aload_n hx hb dX9_readPerson_132 rfl (lv_at hl 0 rfl) ?_
          refine r_get (v := .int (iI x0)) M w 0 9 clX9 rfl (by decide) G387 rfl rfl dX9_readPerson_133 ?_
          refine r_iald (v := iI z54) M w 4 rfl (iI_in (by omega) (by omega) (by decide)) ((cI_at (by omega) (by omega)).trans (congrArg iI (by rw [upz_s]))) dX9_readPerson_136 ?_
          refine lv_iconst (v := iI (-1)) hx hb dX9_readPerson_137 (by decide +kernel) ?_
          refine lv_icmp_ne (tgt := 143) hx hb dX9_readPerson_138 (by decide) (fun c_59 => ?_) (fun c_59 => ?_)
          · replace c_59 : ¬ z54 = (-1) := fun h => c_59 ((iI_eq (Int.le_trans (by decide) z54_a) (Int.le_trans z54_b (by decide)) (by decide) (by decide)).mpr h)
            refine lv_aload_n hx hb dX9_readPerson_143 rfl (lv_at hl 1 rfl) ?_
            refine k_V (ce := 0) (sl := 0) (rest := []) (wr := [(a0, .inr (9, [.ref a2, .ref a3, .ref a4, .ref a5, .ref a6, .ref a7, .ref a8, .ref a9, .ref a10, .int (iI x0), .int (iI x1), .int (iI x2), .int (iI x3), .int (iI x4), .int (iI x5), .int (iI x6), .int (iI x7), .int (iI x8)])), (a2, .inl (T 1, 9, .inr (.inl (vp_updL h0 (Int32.toNatClampNeg (iI x0)) fy6)))), (a3, .inl (T 0, 9, .inl (cI (upz f0 x0 z24)))), (a4, .inl (T 0, 9, .inl (cI (upz f1 x0 z39)))), (a5, .inl (T 0, 9, .inl (cI (upz f2 x0 z54)))), (a6, .inl (T 0, 9, .inl (cI f3))), (a7, .inl (T 0, 9, .inl (cI f4))), (a8, .inl (T 0, 9, .inl (cI f5))), (a9, .inl (T 1, 3, .inr (.inl h1))), (a10, .inl (T 0, 3, .inl (cI f6)))]) (r_V (f := 4) [11, 10] M w V_HookedCity_Town_154 G587 G588 (c266_X8_step l D T _ a1 a11 x9 x10 z46 z47 z48 fo49 fy50 fr51 z52 z55 z56 f7 x9_a x9_b x10_a x10_b z46_a z46_b z47_a z47_b z48_a z48_b fo49_h z52_a z52_b z55_a z55_b z56_a z56_b f7_h) 11 clX8 rfl rfl (by decide) rfl hl.1 rfl (Nat.le_of_ble_eq_true rfl) dX9_readPerson_144 (by decide) (by decide) (by decide) (by decide)) w [11, 10] [0, 1, 2, 3, 4, 5, 6, 7, 8, 9] rfl rfl (by decide) (by decide) rfl rfl (fun u H locs hp w => ?_)
            obtain ⟨z60, z61, z62, fo63, fy64, fr65, z66⟩ := u
            have z60_a : 0 ≤ z60 := hp.1
            have z60_b : z60 ≤ 940 := hp.2.1
            have z61_a : 0 ≤ z61 := hp.2.2.1
            have z61_b : z61 ≤ 940 := hp.2.2.2.1
            have z62_a : 0 ≤ z62 := hp.2.2.2.2.1
            have z62_b : z62 ≤ 5 := hp.2.2.2.2.2.1
            have fo63_h : wok T fo63 := hp.2.2.2.2.2.2.1
            have z66_a : (-2147483648) ≤ z66 := hp.2.2.2.2.2.2.2.1
            have z66_b : z66 ≤ 2147483647 := hp.2.2.2.2.2.2.2.2.1
            have pq67 : gC T (tkAt f7 x9 x10 z46) z62 z61 z60 fy64 fr65 z66 fo63 := hp.2.2.2.2.2.2.2.2.2
            have w : WD D A s.heap [(a0, .inr (9, [.ref a2, .ref a3, .ref a4, .ref a5, .ref a6, .ref a7, .ref a8, .ref a9, .ref a10, .int (iI x0), .int (iI x1), .int (iI x2), .int (iI x3), .int (iI x4), .int (iI x5), .int (iI x6), .int (iI x7), .int (iI x8)])), (a2, .inl (T 1, 9, .inr (.inl (vp_updL h0 (Int32.toNatClampNeg (iI x0)) fy6)))), (a3, .inl (T 0, 9, .inl (cI (upz f0 x0 z24)))), (a4, .inl (T 0, 9, .inl (cI (upz f1 x0 z39)))), (a5, .inl (T 0, 9, .inl (cI (upz f2 x0 z54)))), (a6, .inl (T 0, 9, .inl (cI f3))), (a7, .inl (T 0, 9, .inl (cI f4))), (a8, .inl (T 0, 9, .inl (cI f5))), (a9, .inl (T 1, 3, .inr (.inl h1))), (a10, .inl (T 0, 3, .inl (cI f6))), (a1, .inr (8, [.ref a11, .int (iI x9), .int (iI x10), .int (iI z60), .int (iI z61), .int (iI z62), (va_rf fo63), .long fy64, .int fr65, .int (iI z66), .int (iI z55), .int (iI z56)])), (a11, .inl (T 0, 940, .inl (cI f7)))] H locs := w
            refine lv_aload_n hx hb dX9_readPerson_147 rfl (lv_at hl 0 rfl) ?_
            refine lv_dup hx hb dX9_readPerson_148 rfl ?_
            refine r_get (v := .int (iI x0)) M w 0 9 clX9 rfl (by decide) G387 rfl rfl dX9_readPerson_149 ?_
            refine lv_iconst (v := iI 1) hx hb dX9_readPerson_152 (by decide +kernel) ?_
            refine r_iadd (v := iI (x0 + 1)) M (iI_add _ _) dX9_readPerson_153 ?_
            refine r_put (ws' := [(a0, .inr (9, [.ref a2, .ref a3, .ref a4, .ref a5, .ref a6, .ref a7, .ref a8, .ref a9, .ref a10, .int (iI (x0 + 1)), .int (iI x1), .int (iI x2), .int (iI x3), .int (iI x4), .int (iI x5), .int (iI x6), .int (iI x7), .int (iI x8)])), (a2, .inl (T 1, 9, .inr (.inl (vp_updL h0 (Int32.toNatClampNeg (iI x0)) fy6)))), (a3, .inl (T 0, 9, .inl (cI (upz f0 x0 z24)))), (a4, .inl (T 0, 9, .inl (cI (upz f1 x0 z39)))), (a5, .inl (T 0, 9, .inl (cI (upz f2 x0 z54)))), (a6, .inl (T 0, 9, .inl (cI f3))), (a7, .inl (T 0, 9, .inl (cI f4))), (a8, .inl (T 0, 9, .inl (cI f5))), (a9, .inl (T 1, 3, .inr (.inl h1))), (a10, .inl (T 0, 3, .inl (cI f6))), (a1, .inr (8, [.ref a11, .int (iI x9), .int (iI x10), .int (iI z60), .int (iI z61), .int (iI z62), (va_rf fo63), .long fy64, .int fr65, .int (iI z66), .int (iI z55), .int (iI z56)])), (a11, .inl (T 0, 940, .inl (cI f7)))]) M w 0 9 clX9 rfl (by decide) G387 rfl rfl rfl rfl (Nat.le_of_ble_eq_true rfl) rfl dX9_readPerson_154 (fun H locs w => ?_)
            refine lv_iconst (v := iI 1) hx hb dX9_readPerson_157 (by decide +kernel) ?_
            exact ret _ (1, (x0 + 1), z60, z61, z62, fo63, fy64, fr65, z66, z55, z56, (vp_updL h0 (Int32.toNatClampNeg (iI x0)) fy6), (upz f0 x0 z24), (upz f1 x0 z39), (upz f2 x0 z54)) _ _ _ _ _ [0, 10, 1, 2, 3, 4, 5, 6, 7, 8, 9, 11] dX9_readPerson_158 (by decide +kernel) ⟨rfl, (show (0 : Int) ≤ 1 from by decide), (show (1 : Int) ≤ 1 from by decide), (show 0 ≤ (x0 + 1) from by omega), (show (x0 + 1) ≤ 9 from by omega), z60_a, z60_b, z61_a, z61_b, z62_a, z62_b, fo63_h, z66_a, z66_b, z55_a, z55_b, z56_a, z56_b, (rng_up f0_h (by omega) (by omega)), (rng_up f1_h (by omega) (by omega)), (rng_up f2_h (by omega) (by omega)), (show ∀ (x : Tk × Int × Int) (rd : Int → Int) (h : Nat → Int64) (o : Int → Int), gC T x x13 x12 x11 y0 r0 x14 o0 → XW rd h o h0 f0 f1 f2 f3 f4 f5 h1 f6 x0 x1 x3 x4 x5 x6 x7 x8 → XP (sPerson f7 x9 x10 x rd h o) 1 z55 z56 (fun y => gC T y z62 z61 z60 fy64 fr65 z66 fo63) (fun rd h o => XW rd h o (vp_updL h0 (Int32.toNatClampNeg (iI x0)) fy6) (upz f0 x0 z24) (upz f1 x0 z39) (upz f2 x0 z54) f3 f4 f5 h1 f6 (x0 + 1) x1 x3 x4 x5 x6 x7 x8) from (by intro x rd h o hx hw; have hw1 := hw.1; rw [sPerson, if_neg (by omega)]; have g1 := gC_nx hx pq9; have c1 := pq13 _ rd h o g1 hw; have n1 := chk_nm c1 (by omega); refine bxC_ok c1 (by omega) (fun _ => ?_); have g2 := gC_nx g1 pq23; refine bxV_ok (pq28 _ g2) (by omega) ?_; have g3 := gC_nx g2 pq38; refine bxV_ok (pq43 _ g3) (by omega) ?_; have g4 := gC_nx g3 pq53; refine bxV_ok (pq57 _ g4) (by omega) ?_; have g5 := gC_nx g4 pq67; exact ⟨rfl, g5, xw_person hw (gC_nr g1 n1).1 (by omega)⟩)), (show kpB 1 x15 z55 from (fun hr => by have y1 := pq14 (by omega); have y3 := pq29 (by omega); have y5 := pq44 (by omega); have y7 := pq58 (by omega); omega))⟩ w (by decide) rfl
          · replace c_59 := (iI_eq (Int.le_trans (by decide) z54_a) (Int.le_trans z54_b (by decide)) (by decide) (by decide)).mp c_59
            refine lv_iconst (v := iI 0) hx hb dX9_readPerson_141 (by decide +kernel) ?_
            exact ret _ (0, x0, z46, z47, z48, fo49, fy50, fr51, z52, z55, z56, (vp_updL h0 (Int32.toNatClampNeg (iI x0)) fy6), (upz f0 x0 z24), (upz f1 x0 z39), (upz f2 x0 z54)) _ _ _ _ _ [0, 11, 1, 2, 3, 4, 5, 6, 7, 8, 9, 10] dX9_readPerson_142 (by decide +kernel) ⟨rfl, (show (0 : Int) ≤ 0 from by decide), (show (0 : Int) ≤ 1 from by decide), x0_a, x0_b, z46_a, z46_b, z47_a, z47_b, z48_a, z48_b, fo49_h, z52_a, z52_b, z55_a, z55_b, z56_a, z56_b, (rng_up f0_h (by omega) (by omega)), (rng_up f1_h (by omega) (by omega)), (rng_up f2_h (by omega) (by omega)), (show ∀ (x : Tk × Int × Int) (rd : Int → Int) (h : Nat → Int64) (o : Int → Int), gC T x x13 x12 x11 y0 r0 x14 o0 → XW rd h o h0 f0 f1 f2 f3 f4 f5 h1 f6 x0 x1 x3 x4 x5 x6 x7 x8 → XP (sPerson f7 x9 x10 x rd h o) 0 z55 z56 (fun y => gC T y z48 z47 z46 fy50 fr51 z52 fo49) (fun rd h o => XW rd h o (vp_updL h0 (Int32.toNatClampNeg (iI x0)) fy6) (upz f0 x0 z24) (upz f1 x0 z39) (upz f2 x0 z54) f3 f4 f5 h1 f6 x0 x1 x3 x4 x5 x6 x7 x8) from (by intro x rd h o hx hw; have hw1 := hw.1; rw [sPerson, if_neg (by omega)]; have g1 := gC_nx hx pq9; have c1 := pq13 _ rd h o g1 hw; have n1 := chk_nm c1 (by omega); refine bxC_ok c1 (by omega) (fun _ => ?_); have g2 := gC_nx g1 pq23; refine bxV_ok (pq28 _ g2) (by omega) ?_; have g3 := gC_nx g2 pq38; refine bxV_ok (pq43 _ g3) (by omega) ?_; have g4 := gC_nx g3 pq53; exact bxV_bad (pq57 _ g4) (by omega) rfl)), (show kpB 0 x15 z55 from (fun e => absurd e (by decide)))⟩ w (by decide) rfl
        · replace c_45 := (iI_eq (Int.le_trans (by decide) z39_a) (Int.le_trans z39_b (by decide)) (by decide) (by decide)).mp c_45
          refine lv_iconst (v := iI 0) hx hb dX9_readPerson_106 (by decide +kernel) ?_
          exact ret _ (0, x0, z31, z32, z33, fo40, fy35, fr36, z37, z41, z42, (vp_updL h0 (Int32.toNatClampNeg (iI x0)) fy6), (upz f0 x0 z24), (upz f1 x0 z39), f2) _ _ _ _ _ [0, 10, 1, 2, 3, 4, 5, 6, 7, 8, 9, 11] dX9_readPerson_107 (by decide +kernel) ⟨rfl, (show (0 : Int) ≤ 0 from by decide), (show (0 : Int) ≤ 1 from by decide), x0_a, x0_b, z31_a, z31_b, z32_a, z32_b, z33_a, z33_b, fo40_h, z37_a, z37_b, z41_a, z41_b, z42_a, z42_b, (rng_up f0_h (by omega) (by omega)), (rng_up f1_h (by omega) (by omega)), f2_h, (show ∀ (x : Tk × Int × Int) (rd : Int → Int) (h : Nat → Int64) (o : Int → Int), gC T x x13 x12 x11 y0 r0 x14 o0 → XW rd h o h0 f0 f1 f2 f3 f4 f5 h1 f6 x0 x1 x3 x4 x5 x6 x7 x8 → XP (sPerson f7 x9 x10 x rd h o) 0 z41 z42 (fun y => gC T y z33 z32 z31 fy35 fr36 z37 fo40) (fun rd h o => XW rd h o (vp_updL h0 (Int32.toNatClampNeg (iI x0)) fy6) (upz f0 x0 z24) (upz f1 x0 z39) f2 f3 f4 f5 h1 f6 x0 x1 x3 x4 x5 x6 x7 x8) from (by intro x rd h o hx hw; have hw1 := hw.1; rw [sPerson, if_neg (by omega)]; have g1 := gC_nx hx pq9; have c1 := pq13 _ rd h o g1 hw; have n1 := chk_nm c1 (by omega); refine bxC_ok c1 (by omega) (fun _ => ?_); have g2 := gC_nx g1 pq23; refine bxV_ok (pq28 _ g2) (by omega) ?_; have g3 := gC_nx g2 pq38; exact bxV_bad (pq43 _ g3) (by omega) rfl)), (show kpB 0 x15 z41 from (fun e => absurd e (by decide)))⟩ w (by decide) rfl
      · replace c_30 := (iI_eq (Int.le_trans (by decide) z24_a) (Int.le_trans z24_b (by decide)) (by decide) (by decide)).mp c_30
        refine lv_iconst (v := iI 0) hx hb dX9_readPerson_73 (by decide +kernel) ?_
        exact ret _ (0, x0, z16, z17, z18, fo25, fy20, fr21, z22, z26, z27, (vp_updL h0 (Int32.toNatClampNeg (iI x0)) fy6), (upz f0 x0 z24), f1, f2) _ _ _ _ _ [0, 10, 1, 2, 3, 4, 5, 6, 7, 8, 9, 11] dX9_readPerson_74 (by decide +kernel) ⟨rfl, (show (0 : Int) ≤ 0 from by decide), (show (0 : Int) ≤ 1 from by decide), x0_a, x0_b, z16_a, z16_b, z17_a, z17_b, z18_a, z18_b, fo25_h, z22_a, z22_b, z26_a, z26_b, z27_a, z27_b, (rng_up f0_h (by omega) (by omega)), f1_h, f2_h, (show ∀ (x : Tk × Int × Int) (rd : Int → Int) (h : Nat → Int64) (o : Int → Int), gC T x x13 x12 x11 y0 r0 x14 o0 → XW rd h o h0 f0 f1 f2 f3 f4 f5 h1 f6 x0 x1 x3 x4 x5 x6 x7 x8 → XP (sPerson f7 x9 x10 x rd h o) 0 z26 z27 (fun y => gC T y z18 z17 z16 fy20 fr21 z22 fo25) (fun rd h o => XW rd h o (vp_updL h0 (Int32.toNatClampNeg (iI x0)) fy6) (upz f0 x0 z24) f1 f2 f3 f4 f5 h1 f6 x0 x1 x3 x4 x5 x6 x7 x8) from (by intro x rd h o hx hw; have hw1 := hw.1; rw [sPerson, if_neg (by omega)]; have g1 := gC_nx hx pq9; have c1 := pq13 _ rd h o g1 hw; have n1 := chk_nm c1 (by omega); refine bxC_ok c1 (by omega) (fun _ => ?_); have g2 := gC_nx g1 pq23; exact bxV_bad (pq28 _ g2) (by omega) rfl)), (show kpB 0 x15 z26 from (fun e => absurd e (by decide)))⟩ w (by decide) rfl
    · replace c_15 := (iz_eq (Int.le_trans (by decide) z10_a) (Int.le_trans z10_b (by decide))).mp c_15
      refine lv_iconst (v := iI 0) hx hb dX9_readPerson_27 (by decide +kernel) ?_
      exact ret _ (0, x0, z2, z3, z4, fo5, fy6, fr7, z8, z11, z12, h0, f0, f1, f2) _ _ _ _ _ [0, 1, 2, 3, 4, 5, 6, 7, 8, 9, 10, 11] dX9_readPerson_28 (by decide +kernel) ⟨rfl, (show (0 : Int) ≤ 0 from by decide), (show (0 : Int) ≤ 1 from by decide), x0_a, x0_b, z2_a, z2_b, z3_a, z3_b, z4_a, z4_b, fo5_h, z8_a, z8_b, z11_a, z11_b, z12_a, z12_b, f0_h, f1_h, f2_h, (show ∀ (x : Tk × Int × Int) (rd : Int → Int) (h : Nat → Int64) (o : Int → Int), gC T x x13 x12 x11 y0 r0 x14 o0 → XW rd h o h0 f0 f1 f2 f3 f4 f5 h1 f6 x0 x1 x3 x4 x5 x6 x7 x8 → XP (sPerson f7 x9 x10 x rd h o) 0 z11 z12 (fun y => gC T y z4 z3 z2 fy6 fr7 z8 fo5) (fun rd h o => XW rd h o h0 f0 f1 f2 f3 f4 f5 h1 f6 x0 x1 x3 x4 x5 x6 x7 x8) from (by intro x rd h o hx hw; have hw1 := hw.1; rw [sPerson, if_neg (by omega)]; have g1 := gC_nx hx pq9; have c1 := pq13 _ rd h o g1 hw; exact bxC_bad c1 (by omega) rfl)), (show kpB 0 x15 z11 from (fun e => absurd e (by decide)))⟩ w (by decide) rfl
  · replace c_1 : 9 ≤ x0 := Int.not_lt.mp (fun h => c_1 ((iI_lt (Int.le_trans (by decide) x0_a) (Int.le_trans x0_b (by decide)) (by decide) (by decide)).mpr h))
    refine lv_aload_n hx hb dX9_readPerson_9 rfl (lv_at hl 1 rfl) ?_
    refine lv_iconst (v := iI 4) hx hb dX9_readPerson_10 (by decide +kernel) ?_
    refine k_I (ce := 0) (sl := 0) (rest := []) (wr := [(a0, .inr (9, [.ref a2, .ref a3, .ref a4, .ref a5, .ref a6, .ref a7, .ref a8, .ref a9, .ref a10, .int (iI x0), .int (iI x1), .int (iI x2), .int (iI x3), .int (iI x4), .int (iI x5), .int (iI x6), .int (iI x7), .int (iI x8)])), (a2, .inl (T 1, 9, .inr (.inl h0))), (a3, .inl (T 0, 9, .inl (cI f0))), (a4, .inl (T 0, 9, .inl (cI f1))), (a5, .inl (T 0, 9, .inl (cI f2))), (a6, .inl (T 0, 9, .inl (cI f3))), (a7, .inl (T 0, 9, .inl (cI f4))), (a8, .inl (T 0, 9, .inl (cI f5))), (a9, .inl (T 1, 3, .inr (.inl h1))), (a10, .inl (T 0, 3, .inl (cI f6))), (a11, .inl (T 0, 940, .inl (cI f7)))]) (r_V (f := 0) [1] M w V_HookedCity_Town_150 G710 G711 (c271_X8_fail l D T _ a1 4 a11 x9 x10 x11 x12 x13 o0 y0 r0 x14 x15 x16 (by decide) (by decide) x9_a x9_b x10_a x10_b x11_a x11_b x12_a x12_b x13_a x13_b o0_h x14_a x14_b x15_a x15_b x16_a x16_b) 1 clX8 rfl rfl (by decide) rfl hl.1 rfl (Nat.le_of_ble_eq_true rfl) dX9_readPerson_11 (by decide) (by decide) (by decide) (by decide)) w [1] [0, 2, 3, 4, 5, 6, 7, 8, 9, 10, 11] rfl rfl (by decide) (by decide) rfl rfl (fun v u H locs hp w => ?_)
    obtain ⟨z68, z69, z70⟩ := u
    have hv : iI z68 = v := hp.1
    subst hv
    have z68_a : 0 ≤ z68 := hp.2.1
    have z68_b : z68 ≤ 1 := hp.2.2.1
    have z69_a : (-2147483648) ≤ z69 := hp.2.2.2.1
    have z69_b : z69 ≤ 2147483647 := hp.2.2.2.2.1
    have z70_a : 0 ≤ z70 := hp.2.2.2.2.2.1
    have z70_b : z70 ≤ 940 := hp.2.2.2.2.2.2.1
    have pq71 : z69 = 4 := hp.2.2.2.2.2.2.2.1
    have pq72 : z70 = x12 := hp.2.2.2.2.2.2.2.2.1
    have w : WD D A s.heap [(a0, .inr (9, [.ref a2, .ref a3, .ref a4, .ref a5, .ref a6, .ref a7, .ref a8, .ref a9, .ref a10, .int (iI x0), .int (iI x1), .int (iI x2), .int (iI x3), .int (iI x4), .int (iI x5), .int (iI x6), .int (iI x7), .int (iI x8)])), (a2, .inl (T 1, 9, .inr (.inl h0))), (a3, .inl (T 0, 9, .inl (cI f0))), (a4, .inl (T 0, 9, .inl (cI f1))), (a5, .inl (T 0, 9, .inl (cI f2))), (a6, .inl (T 0, 9, .inl (cI f3))), (a7, .inl (T 0, 9, .inl (cI f4))), (a8, .inl (T 0, 9, .inl (cI f5))), (a9, .inl (T 1, 3, .inr (.inl h1))), (a10, .inl (T 0, 3, .inl (cI f6))), (a11, .inl (T 0, 940, .inl (cI f7))), (a1, .inr (8, [.ref a11, .int (iI x9), .int (iI x10), .int (iI x11), .int (iI x12), .int (iI x13), (va_rf o0), .long y0, .int r0, .int (iI x14), .int (iI z69), .int (iI z70)]))] H locs := w
    rcases hp.2.2.2.2.2.2.2.2.2 with hr
    · subst hr
      exact ret _ (0, x0, x11, x12, x13, o0, y0, r0, x14, z69, z70, h0, f0, f1, f2) _ _ _ _ _ [0, 11, 1, 2, 3, 4, 5, 6, 7, 8, 9, 10] dX9_readPerson_14 (by decide +kernel) ⟨rfl, (show (0 : Int) ≤ 0 from by decide), (show (0 : Int) ≤ 1 from by decide), x0_a, x0_b, x11_a, x11_b, x12_a, x12_b, x13_a, x13_b, o0_h, x14_a, x14_b, z69_a, z69_b, z70_a, z70_b, f0_h, f1_h, f2_h, (show ∀ (x : Tk × Int × Int) (rd : Int → Int) (h : Nat → Int64) (o : Int → Int), gC T x x13 x12 x11 y0 r0 x14 o0 → XW rd h o h0 f0 f1 f2 f3 f4 f5 h1 f6 x0 x1 x3 x4 x5 x6 x7 x8 → XP (sPerson f7 x9 x10 x rd h o) 0 z69 z70 (fun y => gC T y x13 x12 x11 y0 r0 x14 o0) (fun rd h o => XW rd h o h0 f0 f1 f2 f3 f4 f5 h1 f6 x0 x1 x3 x4 x5 x6 x7 x8) from (by intro x rd h o hx hw; have hw1 := hw.1; rw [sPerson, if_pos (by omega)]; exact ⟨rfl, by omega, pq72.trans hx.1⟩)), (show kpB 0 x15 z69 from (fun e => absurd e (by decide)))⟩ w (by decide) rfl
set_option maxRecDepth 100000 in
set_option maxHeartbeats 4000000 in
theorem c292_X9_readLine (l : Launch) (D : va_G) (T : Nat → ClassId) (sz : Nat) (a0 : Nat) (a1 : Nat) (a2 : Nat) (a3 : Nat) (a4 : Nat) (a5 : Nat) (a6 : Nat) (a7 : Nat) (a8 : Nat) (a9 : Nat) (a10 : Nat) (x0 : Int) (x1 : Int) (x2 : Int) (x3 : Int) (x4 : Int) (x5 : Int) (x6 : Int) (x7 : Int) (x8 : Int) (a11 : Nat) (x9 : Int) (x10 : Int) (x11 : Int) (x12 : Int) (x13 : Int) (o0 : Option Nat) (y0 : Int64) (r0 : Int32) (x14 : Int) (x15 : Int) (x16 : Int) (h0 : Nat → Int64) (f0 : Int → Int) (f1 : Int → Int) (f2 : Int → Int) (f3 : Int → Int) (f4 : Int → Int) (f5 : Int → Int) (h1 : Nat → Int64) (f6 : Int → Int) (f7 : Int → Int) (x0_a : 0 ≤ x0) (x0_b : x0 ≤ 9) (x1_a : 0 ≤ x1) (x1_b : x1 ≤ 3) (x2_a : 0 ≤ x2) (x2_b : x2 ≤ 900) (x3_a : (-2147483648) ≤ x3) (x3_b : x3 ≤ 2147483647) (x4_a : (-2147483648) ≤ x4) (x4_b : x4 ≤ 2147483647) (x5_a : (-2147483648) ≤ x5) (x5_b : x5 ≤ 2147483647) (x6_a : 0 ≤ x6) (x6_b : x6 ≤ 1) (x7_a : 0 ≤ x7) (x7_b : x7 ≤ 1) (x8_a : 0 ≤ x8) (x8_b : x8 ≤ 1) (x9_a : 0 ≤ x9) (x9_b : x9 ≤ 940) (x10_a : 0 ≤ x10) (x10_b : x10 ≤ 940) (x11_a : 0 ≤ x11) (x11_b : x11 ≤ 940) (x12_a : 0 ≤ x12) (x12_b : x12 ≤ 940) (x13_a : 0 ≤ x13) (x13_b : x13 ≤ 5) (o0_h : wok T o0) (x14_a : (-2147483648) ≤ x14) (x14_b : x14 ≤ 2147483647) (x15_a : (-2147483648) ≤ x15) (x15_b : x15 ≤ 2147483647) (x16_a : 0 ≤ x16) (x16_b : x16 ≤ 940) (f0_h : rng (-2147483648) 2147483647 f0) (f1_h : rng (-2147483648) 2147483647 f1) (f2_h : rng (-2147483648) 2147483647 f2) (f3_h : rng 0 511 f3) (f4_h : rng (-1) 8 f4) (f5_h : rng (-1) 8 f5) (f6_h : rng (-2147483648) 2147483647 f6) (f7_h : rng 0 255 f7) : Met l yX9_readLine (Cond.code yX9_readLine cX9_readLine 3 (some .boolean) :: GW) (Rm 7 0 0) (cPre [.ref a0, .ref a1] D T [(a0, .inr (9, [.ref a2, .ref a3, .ref a4, .ref a5, .ref a6, .ref a7, .ref a8, .ref a9, .ref a10, .int (iI x0), .int (iI x1), .int (iI x2), .int (iI x3), .int (iI x4), .int (iI x5), .int (iI x6), .int (iI x7), .int (iI x8)])), (a1, .inr (8, [.ref a11, .int (iI x9), .int (iI x10), .int (iI x11), .int (iI x12), .int (iI x13), (va_rf o0), .long y0, .int r0, .int (iI x14), .int (iI x15), .int (iI x16)])), (a2, .inl (T 1, 9, .inr (.inl h0))), (a3, .inl (T 0, 9, .inl (cI f0))), (a4, .inl (T 0, 9, .inl (cI f1))), (a5, .inl (T 0, 9, .inl (cI f2))), (a6, .inl (T 0, 9, .inl (cI f3))), (a7, .inl (T 0, 9, .inl (cI f4))), (a8, .inl (T 0, 9, .inl (cI f5))), (a9, .inl (T 1, 3, .inr (.inl h1))), (a10, .inl (T 0, 3, .inl (cI f6))), (a11, .inl (T 0, 940, .inl (cI f7)))] sz) (qI D [(a0, .inr (9, [.ref a2, .ref a3, .ref a4, .ref a5, .ref a6, .ref a7, .ref a8, .ref a9, .ref a10, .int (iI x0), .int (iI x1), .int (iI x2), .int (iI x3), .int (iI x4), .int (iI x5), .int (iI x6), .int (iI x7), .int (iI x8)])), (a1, .inr (8, [.ref a11, .int (iI x9), .int (iI x10), .int (iI x11), .int (iI x12), .int (iI x13), (va_rf o0), .long y0, .int r0, .int (iI x14), .int (iI x15), .int (iI x16)])), (a2, .inl (T 1, 9, .inr (.inl h0))), (a3, .inl (T 0, 9, .inl (cI f0))), (a4, .inl (T 0, 9, .inl (cI f1))), (a5, .inl (T 0, 9, .inl (cI f2))), (a6, .inl (T 0, 9, .inl (cI f3))), (a7, .inl (T 0, 9, .inl (cI f4))), (a8, .inl (T 0, 9, .inl (cI f5))), (a9, .inl (T 1, 3, .inr (.inl h1))), (a10, .inl (T 0, 3, .inl (cI f6))), (a11, .inl (T 0, 940, .inl (cI f7)))] sz (fun (v : Int32) (u : Int × Int × Int × Int × Int × Int × Int × Int × Int × Int × Int × Int × Option Nat × Int64 × Int32 × Int × Int × Int × (Nat → Int64) × (Int → Int) × (Int → Int) × (Int → Int) × (Int → Int) × (Int → Int) × (Int → Int) × (Nat → Int64) × (Int → Int)) => iI u.1 = v ∧ 0 ≤ u.1 ∧ u.1 ≤ 1 ∧ 0 ≤ u.2.1 ∧ u.2.1 ≤ 9 ∧ 0 ≤ u.2.2.1 ∧ u.2.2.1 ≤ 3 ∧ (-2147483648) ≤ u.2.2.2.1 ∧ u.2.2.2.1 ≤ 2147483647 ∧ (-2147483648) ≤ u.2.2.2.2.1 ∧ u.2.2.2.2.1 ≤ 2147483647 ∧ (-2147483648) ≤ u.2.2.2.2.2.1 ∧ u.2.2.2.2.2.1 ≤ 2147483647 ∧ 0 ≤ u.2.2.2.2.2.2.1 ∧ u.2.2.2.2.2.2.1 ≤ 1 ∧ 0 ≤ u.2.2.2.2.2.2.2.1 ∧ u.2.2.2.2.2.2.2.1 ≤ 1 ∧ 0 ≤ u.2.2.2.2.2.2.2.2.1 ∧ u.2.2.2.2.2.2.2.2.1 ≤ 1 ∧ 0 ≤ u.2.2.2.2.2.2.2.2.2.1 ∧ u.2.2.2.2.2.2.2.2.2.1 ≤ 940 ∧ 0 ≤ u.2.2.2.2.2.2.2.2.2.2.1 ∧ u.2.2.2.2.2.2.2.2.2.2.1 ≤ 940 ∧ 0 ≤ u.2.2.2.2.2.2.2.2.2.2.2.1 ∧ u.2.2.2.2.2.2.2.2.2.2.2.1 ≤ 5 ∧ wok T u.2.2.2.2.2.2.2.2.2.2.2.2.1 ∧ (-2147483648) ≤ u.2.2.2.2.2.2.2.2.2.2.2.2.2.2.2.1 ∧ u.2.2.2.2.2.2.2.2.2.2.2.2.2.2.2.1 ≤ 2147483647 ∧ (-2147483648) ≤ u.2.2.2.2.2.2.2.2.2.2.2.2.2.2.2.2.1 ∧ u.2.2.2.2.2.2.2.2.2.2.2.2.2.2.2.2.1 ≤ 2147483647 ∧ 0 ≤ u.2.2.2.2.2.2.2.2.2.2.2.2.2.2.2.2.2.1 ∧ u.2.2.2.2.2.2.2.2.2.2.2.2.2.2.2.2.2.1 ≤ 940 ∧ rng (-2147483648) 2147483647 u.2.2.2.2.2.2.2.2.2.2.2.2.2.2.2.2.2.2.2.1 ∧ rng (-2147483648) 2147483647 u.2.2.2.2.2.2.2.2.2.2.2.2.2.2.2.2.2.2.2.2.1 ∧ rng (-2147483648) 2147483647 u.2.2.2.2.2.2.2.2.2.2.2.2.2.2.2.2.2.2.2.2.2.1 ∧ rng 0 511 u.2.2.2.2.2.2.2.2.2.2.2.2.2.2.2.2.2.2.2.2.2.2.1 ∧ rng (-1) 8 u.2.2.2.2.2.2.2.2.2.2.2.2.2.2.2.2.2.2.2.2.2.2.2.1 ∧ rng (-1) 8 u.2.2.2.2.2.2.2.2.2.2.2.2.2.2.2.2.2.2.2.2.2.2.2.2.1 ∧ rng (-2147483648) 2147483647 u.2.2.2.2.2.2.2.2.2.2.2.2.2.2.2.2.2.2.2.2.2.2.2.2.2.2 ∧ (∀ (x : Tk × Int × Int) (rd : Int → Int) (h : Nat → Int64) (o : Int → Int), gC T x x13 x12 x11 y0 r0 x14 o0 → XW rd h o h0 f0 f1 f2 f3 f4 f5 h1 f6 x0 x1 x3 x4 x5 x6 x7 x8 → XP (sLine f7 x9 x10 x rd h o) u.1 u.2.2.2.2.2.2.2.2.2.2.2.2.2.2.2.2.1 u.2.2.2.2.2.2.2.2.2.2.2.2.2.2.2.2.2.1 (fun y => gC T y u.2.2.2.2.2.2.2.2.2.2.2.1 u.2.2.2.2.2.2.2.2.2.2.1 u.2.2.2.2.2.2.2.2.2.1 u.2.2.2.2.2.2.2.2.2.2.2.2.2.1 u.2.2.2.2.2.2.2.2.2.2.2.2.2.2.1 u.2.2.2.2.2.2.2.2.2.2.2.2.2.2.2.1 u.2.2.2.2.2.2.2.2.2.2.2.2.1) (fun rd h o => XW rd h o u.2.2.2.2.2.2.2.2.2.2.2.2.2.2.2.2.2.2.1 u.2.2.2.2.2.2.2.2.2.2.2.2.2.2.2.2.2.2.2.1 u.2.2.2.2.2.2.2.2.2.2.2.2.2.2.2.2.2.2.2.2.1 u.2.2.2.2.2.2.2.2.2.2.2.2.2.2.2.2.2.2.2.2.2.1 u.2.2.2.2.2.2.2.2.2.2.2.2.2.2.2.2.2.2.2.2.2.2.1 u.2.2.2.2.2.2.2.2.2.2.2.2.2.2.2.2.2.2.2.2.2.2.2.1 u.2.2.2.2.2.2.2.2.2.2.2.2.2.2.2.2.2.2.2.2.2.2.2.2.1 u.2.2.2.2.2.2.2.2.2.2.2.2.2.2.2.2.2.2.2.2.2.2.2.2.2.1 u.2.2.2.2.2.2.2.2.2.2.2.2.2.2.2.2.2.2.2.2.2.2.2.2.2.2 u.2.1 u.2.2.1 u.2.2.2.1 u.2.2.2.2.1 u.2.2.2.2.2.1 u.2.2.2.2.2.2.1 u.2.2.2.2.2.2.2.1 u.2.2.2.2.2.2.2.2.1)) ∧ (kpB u.1 x15 u.2.2.2.2.2.2.2.2.2.2.2.2.2.2.2.2.1)) (fun u => [(a0, .inr (9, [.ref a2, .ref a3, .ref a4, .ref a5, .ref a6, .ref a7, .ref a8, .ref a9, .ref a10, .int (iI u.2.1), .int (iI u.2.2.1), .int (iI x2), .int (iI u.2.2.2.1), .int (iI u.2.2.2.2.1), .int (iI u.2.2.2.2.2.1), .int (iI u.2.2.2.2.2.2.1), .int (iI u.2.2.2.2.2.2.2.1), .int (iI u.2.2.2.2.2.2.2.2.1)])), (a1, .inr (8, [.ref a11, .int (iI x9), .int (iI x10), .int (iI u.2.2.2.2.2.2.2.2.2.1), .int (iI u.2.2.2.2.2.2.2.2.2.2.1), .int (iI u.2.2.2.2.2.2.2.2.2.2.2.1), (va_rf u.2.2.2.2.2.2.2.2.2.2.2.2.1), .long u.2.2.2.2.2.2.2.2.2.2.2.2.2.1, .int u.2.2.2.2.2.2.2.2.2.2.2.2.2.2.1, .int (iI u.2.2.2.2.2.2.2.2.2.2.2.2.2.2.2.1), .int (iI u.2.2.2.2.2.2.2.2.2.2.2.2.2.2.2.2.1), .int (iI u.2.2.2.2.2.2.2.2.2.2.2.2.2.2.2.2.2.1)])), (a2, .inl (T 1, 9, .inr (.inl u.2.2.2.2.2.2.2.2.2.2.2.2.2.2.2.2.2.2.1))), (a3, .inl (T 0, 9, .inl (cI u.2.2.2.2.2.2.2.2.2.2.2.2.2.2.2.2.2.2.2.1))), (a4, .inl (T 0, 9, .inl (cI u.2.2.2.2.2.2.2.2.2.2.2.2.2.2.2.2.2.2.2.2.1))), (a5, .inl (T 0, 9, .inl (cI u.2.2.2.2.2.2.2.2.2.2.2.2.2.2.2.2.2.2.2.2.2.1))), (a6, .inl (T 0, 9, .inl (cI u.2.2.2.2.2.2.2.2.2.2.2.2.2.2.2.2.2.2.2.2.2.2.1))), (a7, .inl (T 0, 9, .inl (cI u.2.2.2.2.2.2.2.2.2.2.2.2.2.2.2.2.2.2.2.2.2.2.2.1))), (a8, .inl (T 0, 9, .inl (cI u.2.2.2.2.2.2.2.2.2.2.2.2.2.2.2.2.2.2.2.2.2.2.2.2.1))), (a9, .inl (T 1, 3, .inr (.inl u.2.2.2.2.2.2.2.2.2.2.2.2.2.2.2.2.2.2.2.2.2.2.2.2.2.1))), (a10, .inl (T 0, 3, .inl (cI u.2.2.2.2.2.2.2.2.2.2.2.2.2.2.2.2.2.2.2.2.2.2.2.2.2.2))), (a11, .inl (T 0, 940, .inl (cI f7)))])) 0 0 (va_A [(a0, .inr (9, [.ref a2, .ref a3, .ref a4, .ref a5, .ref a6, .ref a7, .ref a8, .ref a9, .ref a10, .int (iI x0), .int (iI x1), .int (iI x2), .int (iI x3), .int (iI x4), .int (iI x5), .int (iI x6), .int (iI x7), .int (iI x8)])), (a1, .inr (8, [.ref a11, .int (iI x9), .int (iI x10), .int (iI x11), .int (iI x12), .int (iI x13), (va_rf o0), .long y0, .int r0, .int (iI x14), .int (iI x15), .int (iI x16)])), (a2, .inl (T 1, 9, .inr (.inl h0))), (a3, .inl (T 0, 9, .inl (cI f0))), (a4, .inl (T 0, 9, .inl (cI f1))), (a5, .inl (T 0, 9, .inl (cI f2))), (a6, .inl (T 0, 9, .inl (cI f3))), (a7, .inl (T 0, 9, .inl (cI f4))), (a8, .inl (T 0, 9, .inl (cI f5))), (a9, .inl (T 1, 3, .inr (.inl h1))), (a10, .inl (T 0, 3, .inl (cI f6))), (a11, .inl (T 0, 940, .inl (cI f7)))] sz) := by
  refine e_Z (by decide) (Nat.le_of_ble_eq_true rfl) ?_
  intro p e s m args below meth c A Q ls M hin w ret hl
  have hx := M.1.1
  have hb := M.1.2.1
  have hl : lv_has ls 3 [(0, .ref a0), (1, .ref a1)] := hl
  refine lv_aload_n hx hb dX9_readLine_0 rfl (lv_at hl 1 rfl) ?_
  refine r_getN (v := (va_rf o0)) M w 1 6 clX8 rfl (by decide) N172 rfl rfl dX9_readLine_1 ?_
  cases o0 with
  | none =>
    refine lv_astore_nN (lv' := [(2, .null), (0, .ref a0), (1, .ref a1)]) hx hb dX9_readLine_4 rfl hl (by decide) rfl (fun ls hl => ?_)
    refine lv_aload_nN hx hb dX9_readLine_5 rfl (lv_at hl 0 rfl) ?_
    refine r_gets M w 0 rfl G703 dX9_readLine_6 ?_
    refine lv_acmp_ne (rx := none) (ry := (some (T (10 + 0)))) (tgt := 18) hx hb dX9_readLine_9 (by decide) (fun _ => ?_) (fun c => absurd c (by simp))
    refine lv_aload_nN hx hb dX9_readLine_18 rfl (lv_at hl 0 rfl) ?_
    refine r_gets M w 1 rfl G730 dX9_readLine_19 ?_
    refine lv_acmp_ne (rx := none) (ry := (some (T (10 + 1)))) (tgt := 31) hx hb dX9_readLine_22 (by decide) (fun _ => ?_) (fun c => absurd c (by simp))
    refine lv_aload_nN hx hb dX9_readLine_31 rfl (lv_at hl 0 rfl) ?_
    refine r_gets M w 2 rfl G736 dX9_readLine_32 ?_
    refine lv_acmp_ne (rx := none) (ry := (some (T (10 + 2)))) (tgt := 44) hx hb dX9_readLine_35 (by decide) (fun _ => ?_) (fun c => absurd c (by simp))
    refine lv_aload_nN hx hb dX9_readLine_44 rfl (lv_at hl 0 rfl) ?_
    refine r_gets M w 3 rfl G750 dX9_readLine_45 ?_
    refine lv_acmp_ne (rx := none) (ry := (some (T (10 + 3)))) (tgt := 57) hx hb dX9_readLine_48 (by decide) (fun _ => ?_) (fun c => absurd c (by simp))
    refine lv_aload_nN hx hb dX9_readLine_57 rfl (lv_at hl 0 rfl) ?_
    refine r_gets M w 4 rfl G756 dX9_readLine_58 ?_
    refine lv_acmp_ne (rx := none) (ry := (some (T (10 + 4)))) (tgt := 70) hx hb dX9_readLine_61 (by decide) (fun _ => ?_) (fun c => absurd c (by simp))
    refine lv_aload_nN hx hb dX9_readLine_70 rfl (lv_at hl 0 rfl) ?_
    refine r_gets M w 5 rfl G766 dX9_readLine_71 ?_
    refine lv_acmp_ne (rx := none) (ry := (some (T (10 + 5)))) (tgt := 83) hx hb dX9_readLine_74 (by decide) (fun _ => ?_) (fun c => absurd c (by simp))
    refine lv_aload_nN hx hb dX9_readLine_83 rfl (lv_at hl 0 rfl) ?_
    refine r_gets M w 6 rfl G772 dX9_readLine_84 ?_
    refine lv_acmp_ne (rx := none) (ry := (some (T (10 + 6)))) (tgt := 96) hx hb dX9_readLine_87 (by decide) (fun _ => ?_) (fun c => absurd c (by simp))
    refine lv_aload_n hx hb dX9_readLine_96 rfl (lv_at hl 2 rfl) ?_
    refine lv_iconst (v := iI 1) hx hb dX9_readLine_97 (by decide +kernel) ?_
    refine k_I (ce := 0) (sl := 0) (rest := []) (wr := [(a0, .inr (9, [.ref a2, .ref a3, .ref a4, .ref a5, .ref a6, .ref a7, .ref a8, .ref a9, .ref a10, .int (iI x0), .int (iI x1), .int (iI x2), .int (iI x3), .int (iI x4), .int (iI x5), .int (iI x6), .int (iI x7), .int (iI x8)])), (a2, .inl (T 1, 9, .inr (.inl h0))), (a3, .inl (T 0, 9, .inl (cI f0))), (a4, .inl (T 0, 9, .inl (cI f1))), (a5, .inl (T 0, 9, .inl (cI f2))), (a6, .inl (T 0, 9, .inl (cI f3))), (a7, .inl (T 0, 9, .inl (cI f4))), (a8, .inl (T 0, 9, .inl (cI f5))), (a9, .inl (T 1, 3, .inr (.inl h1))), (a10, .inl (T 0, 3, .inl (cI f6))), (a11, .inl (T 0, 940, .inl (cI f7)))]) (r_V (f := 0) [1] M w V_HookedCity_Town_150 G710 G711 (c271_X8_fail l D T _ a1 1 a11 x9 x10 x11 x12 x13 none y0 r0 x14 x15 x16 (by decide) (by decide) x9_a x9_b x10_a x10_b x11_a x11_b x12_a x12_b x13_a x13_b wok_n x14_a x14_b x15_a x15_b x16_a x16_b) 1 clX8 rfl rfl (by decide) rfl hl.1 rfl (Nat.le_of_ble_eq_true rfl) dX9_readLine_98 (by decide) (by decide) (by decide) (by decide)) w [1] [0, 2, 3, 4, 5, 6, 7, 8, 9, 10, 11] rfl rfl (by decide) (by decide) rfl rfl (fun v u H locs hp w => ?_)
    obtain ⟨z2, z3, z4⟩ := u
    have hv : iI z2 = v := hp.1
    subst hv
    have z2_a : 0 ≤ z2 := hp.2.1
    have z2_b : z2 ≤ 1 := hp.2.2.1
    have z3_a : (-2147483648) ≤ z3 := hp.2.2.2.1
    have z3_b : z3 ≤ 2147483647 := hp.2.2.2.2.1
    have z4_a : 0 ≤ z4 := hp.2.2.2.2.2.1
    have z4_b : z4 ≤ 940 := hp.2.2.2.2.2.2.1
    have pq5 : z3 = 1 := hp.2.2.2.2.2.2.2.1
    have pq6 : z4 = x12 := hp.2.2.2.2.2.2.2.2.1
    have w : WD D A s.heap [(a0, .inr (9, [.ref a2, .ref a3, .ref a4, .ref a5, .ref a6, .ref a7, .ref a8, .ref a9, .ref a10, .int (iI x0), .int (iI x1), .int (iI x2), .int (iI x3), .int (iI x4), .int (iI x5), .int (iI x6), .int (iI x7), .int (iI x8)])), (a2, .inl (T 1, 9, .inr (.inl h0))), (a3, .inl (T 0, 9, .inl (cI f0))), (a4, .inl (T 0, 9, .inl (cI f1))), (a5, .inl (T 0, 9, .inl (cI f2))), (a6, .inl (T 0, 9, .inl (cI f3))), (a7, .inl (T 0, 9, .inl (cI f4))), (a8, .inl (T 0, 9, .inl (cI f5))), (a9, .inl (T 1, 3, .inr (.inl h1))), (a10, .inl (T 0, 3, .inl (cI f6))), (a11, .inl (T 0, 940, .inl (cI f7))), (a1, .inr (8, [.ref a11, .int (iI x9), .int (iI x10), .int (iI x11), .int (iI x12), .int (iI x13), (va_rf none), .long y0, .int r0, .int (iI x14), .int (iI z3), .int (iI z4)]))] H locs := w
    rcases hp.2.2.2.2.2.2.2.2.2 with hr
    · subst hr
      exact ret _ (0, x0, x1, x3, x4, x5, x6, x7, x8, x11, x12, x13, none, y0, r0, x14, z3, z4, h0, f0, f1, f2, f3, f4, f5, h1, f6) _ _ _ _ _ [0, 11, 1, 2, 3, 4, 5, 6, 7, 8, 9, 10] dX9_readLine_101 (by decide +kernel) ⟨rfl, (show (0 : Int) ≤ 0 from by decide), (show (0 : Int) ≤ 1 from by decide), x0_a, x0_b, x1_a, x1_b, x3_a, x3_b, x4_a, x4_b, x5_a, x5_b, x6_a, x6_b, x7_a, x7_b, x8_a, x8_b, x11_a, x11_b, x12_a, x12_b, x13_a, x13_b, wok_n, x14_a, x14_b, z3_a, z3_b, z4_a, z4_b, f0_h, f1_h, f2_h, f3_h, f4_h, f5_h, f6_h, (show ∀ (x : Tk × Int × Int) (rd : Int → Int) (h : Nat → Int64) (o : Int → Int), gC T x x13 x12 x11 y0 r0 x14 none → XW rd h o h0 f0 f1 f2 f3 f4 f5 h1 f6 x0 x1 x3 x4 x5 x6 x7 x8 → XP (sLine f7 x9 x10 x rd h o) 0 z3 z4 (fun y => gC T y x13 x12 x11 y0 r0 x14 none) (fun rd h o => XW rd h o h0 f0 f1 f2 f3 f4 f5 h1 f6 x0 x1 x3 x4 x5 x6 x7 x8) from (by intro x rd h o hx hw; rw [sLine, if_neg (cw_n hx (j := 0) (by decide)), if_neg (cw_n hx (j := 1) (by decide)), if_neg (cw_n hx (j := 2) (by decide)), if_neg (cw_n hx (j := 3) (by decide)), if_neg (cw_n hx (j := 4) (by decide)), if_neg (cw_n hx (j := 5) (by decide)), if_neg (cw_n hx (j := 6) (by decide))]; exact ⟨rfl, by omega, pq6.trans hx.1⟩)), (show kpB 0 x15 z3 from (fun e => absurd e (by decide)))⟩ w (by decide) rfl
  | some qq1 =>
    refine lv_astore_n (lv' := [(2, .ref qq1), (0, .ref a0), (1, .ref a1)]) hx hb dX9_readLine_4 rfl hl (by decide) rfl (fun ls hl => ?_)
    refine lv_aload_n hx hb dX9_readLine_5 rfl (lv_at hl 0 rfl) ?_
    refine r_gets M w 0 rfl G703 dX9_readLine_6 ?_
    refine lv_acmp_ne (rx := (some qq1)) (ry := (some (T (10 + 0)))) (tgt := 18) hx hb dX9_readLine_9 (by decide) (fun c_7 => ?_) (fun c_7 => ?_)
    · refine lv_aload_n hx hb dX9_readLine_18 rfl (lv_at hl 0 rfl) ?_
      refine r_gets M w 1 rfl G730 dX9_readLine_19 ?_
      refine lv_acmp_ne (rx := (some qq1)) (ry := (some (T (10 + 1)))) (tgt := 31) hx hb dX9_readLine_22 (by decide) (fun c_8 => ?_) (fun c_8 => ?_)
      · refine lv_aload_n hx hb dX9_readLine_31 rfl (lv_at hl 0 rfl) ?_
        refine r_gets M w 2 rfl G736 dX9_readLine_32 ?_
        refine lv_acmp_ne (rx := (some qq1)) (ry := (some (T (10 + 2)))) (tgt := 44) hx hb dX9_readLine_35 (by decide) (fun c_9 => ?_) (fun c_9 => ?_)
        · refine lv_aload_n hx hb dX9_readLine_44 rfl (lv_at hl 0 rfl) ?_
          refine r_gets M w 3 rfl G750 dX9_readLine_45 ?_
          refine lv_acmp_ne (rx := (some qq1)) (ry := (some (T (10 + 3)))) (tgt := 57) hx hb dX9_readLine_48 (by decide) (fun c_10 => ?_) (fun c_10 => ?_)
          · refine lv_aload_n hx hb dX9_readLine_57 rfl (lv_at hl 0 rfl) ?_
            refine r_gets M w 4 rfl G756 dX9_readLine_58 ?_
            refine lv_acmp_ne (rx := (some qq1)) (ry := (some (T (10 + 4)))) (tgt := 70) hx hb dX9_readLine_61 (by decide) (fun c_11 => ?_) (fun c_11 => ?_)
            · refine lv_aload_n hx hb dX9_readLine_70 rfl (lv_at hl 0 rfl) ?_
              refine r_gets M w 5 rfl G766 dX9_readLine_71 ?_
              refine lv_acmp_ne (rx := (some qq1)) (ry := (some (T (10 + 5)))) (tgt := 83) hx hb dX9_readLine_74 (by decide) (fun c_12 => ?_) (fun c_12 => ?_)
              · refine lv_aload_n hx hb dX9_readLine_83 rfl (lv_at hl 0 rfl) ?_
                refine r_gets M w 6 rfl G772 dX9_readLine_84 ?_
                refine lv_acmp_ne (rx := (some qq1)) (ry := (some (T (10 + 6)))) (tgt := 96) hx hb dX9_readLine_87 (by decide) (fun c_13 => ?_) (fun c_13 => ?_)
                · refine lv_aload_n hx hb dX9_readLine_96 rfl (lv_at hl 2 rfl) ?_
                  refine lv_iconst (v := iI 1) hx hb dX9_readLine_97 (by decide +kernel) ?_
                  refine k_I (ce := 0) (sl := 0) (rest := []) (wr := [(a0, .inr (9, [.ref a2, .ref a3, .ref a4, .ref a5, .ref a6, .ref a7, .ref a8, .ref a9, .ref a10, .int (iI x0), .int (iI x1), .int (iI x2), .int (iI x3), .int (iI x4), .int (iI x5), .int (iI x6), .int (iI x7), .int (iI x8)])), (a2, .inl (T 1, 9, .inr (.inl h0))), (a3, .inl (T 0, 9, .inl (cI f0))), (a4, .inl (T 0, 9, .inl (cI f1))), (a5, .inl (T 0, 9, .inl (cI f2))), (a6, .inl (T 0, 9, .inl (cI f3))), (a7, .inl (T 0, 9, .inl (cI f4))), (a8, .inl (T 0, 9, .inl (cI f5))), (a9, .inl (T 1, 3, .inr (.inl h1))), (a10, .inl (T 0, 3, .inl (cI f6))), (a11, .inl (T 0, 940, .inl (cI f7)))]) (r_V (f := 0) [1] M w V_HookedCity_Town_150 G710 G711 (c271_X8_fail l D T _ a1 1 a11 x9 x10 x11 x12 x13 (some qq1) y0 r0 x14 x15 x16 (by decide) (by decide) x9_a x9_b x10_a x10_b x11_a x11_b x12_a x12_b x13_a x13_b o0_h x14_a x14_b x15_a x15_b x16_a x16_b) 1 clX8 rfl rfl (by decide) rfl hl.1 rfl (Nat.le_of_ble_eq_true rfl) dX9_readLine_98 (by decide) (by decide) (by decide) (by decide)) w [1] [0, 2, 3, 4, 5, 6, 7, 8, 9, 10, 11] rfl rfl (by decide) (by decide) rfl rfl (fun v u H locs hp w => ?_)
                  obtain ⟨z14, z15, z16⟩ := u
                  have hv : iI z14 = v := hp.1
                  subst hv
                  have z14_a : 0 ≤ z14 := hp.2.1
                  have z14_b : z14 ≤ 1 := hp.2.2.1
                  have z15_a : (-2147483648) ≤ z15 := hp.2.2.2.1
                  have z15_b : z15 ≤ 2147483647 := hp.2.2.2.2.1
                  have z16_a : 0 ≤ z16 := hp.2.2.2.2.2.1
                  have z16_b : z16 ≤ 940 := hp.2.2.2.2.2.2.1
                  have pq17 : z15 = 1 := hp.2.2.2.2.2.2.2.1
                  have pq18 : z16 = x12 := hp.2.2.2.2.2.2.2.2.1
                  have w : WD D A s.heap [(a0, .inr (9, [.ref a2, .ref a3, .ref a4, .ref a5, .ref a6, .ref a7, .ref a8, .ref a9, .ref a10, .int (iI x0), .int (iI x1), .int (iI x2), .int (iI x3), .int (iI x4), .int (iI x5), .int (iI x6), .int (iI x7), .int (iI x8)])), (a2, .inl (T 1, 9, .inr (.inl h0))), (a3, .inl (T 0, 9, .inl (cI f0))), (a4, .inl (T 0, 9, .inl (cI f1))), (a5, .inl (T 0, 9, .inl (cI f2))), (a6, .inl (T 0, 9, .inl (cI f3))), (a7, .inl (T 0, 9, .inl (cI f4))), (a8, .inl (T 0, 9, .inl (cI f5))), (a9, .inl (T 1, 3, .inr (.inl h1))), (a10, .inl (T 0, 3, .inl (cI f6))), (a11, .inl (T 0, 940, .inl (cI f7))), (a1, .inr (8, [.ref a11, .int (iI x9), .int (iI x10), .int (iI x11), .int (iI x12), .int (iI x13), (va_rf (some qq1)), .long y0, .int r0, .int (iI x14), .int (iI z15), .int (iI z16)]))] H locs := w
                  rcases hp.2.2.2.2.2.2.2.2.2 with hr
                  · subst hr
                    exact ret _ (0, x0, x1, x3, x4, x5, x6, x7, x8, x11, x12, x13, (some qq1), y0, r0, x14, z15, z16, h0, f0, f1, f2, f3, f4, f5, h1, f6) _ _ _ _ _ [0, 11, 1, 2, 3, 4, 5, 6, 7, 8, 9, 10] dX9_readLine_101 (by decide +kernel) ⟨rfl, (show (0 : Int) ≤ 0 from by decide), (show (0 : Int) ≤ 1 from by decide), x0_a, x0_b, x1_a, x1_b, x3_a, x3_b, x4_a, x4_b, x5_a, x5_b, x6_a, x6_b, x7_a, x7_b, x8_a, x8_b, x11_a, x11_b, x12_a, x12_b, x13_a, x13_b, o0_h, x14_a, x14_b, z15_a, z15_b, z16_a, z16_b, f0_h, f1_h, f2_h, f3_h, f4_h, f5_h, f6_h, (show ∀ (x : Tk × Int × Int) (rd : Int → Int) (h : Nat → Int64) (o : Int → Int), gC T x x13 x12 x11 y0 r0 x14 (some qq1) → XW rd h o h0 f0 f1 f2 f3 f4 f5 h1 f6 x0 x1 x3 x4 x5 x6 x7 x8 → XP (sLine f7 x9 x10 x rd h o) 0 z15 z16 (fun y => gC T y x13 x12 x11 y0 r0 x14 (some qq1)) (fun rd h o => XW rd h o h0 f0 f1 f2 f3 f4 f5 h1 f6 x0 x1 x3 x4 x5 x6 x7 x8) from (by intro x rd h o hx hw; rw [sLine, if_neg (cw_0 hx (j := 0) (by decide) c_7), if_neg (cw_0 hx (j := 1) (by decide) c_8), if_neg (cw_0 hx (j := 2) (by decide) c_9), if_neg (cw_0 hx (j := 3) (by decide) c_10), if_neg (cw_0 hx (j := 4) (by decide) c_11), if_neg (cw_0 hx (j := 5) (by decide) c_12), if_neg (cw_0 hx (j := 6) (by decide) c_13)]; exact ⟨rfl, by omega, pq18.trans hx.1⟩)), (show kpB 0 x15 z15 from (fun e => absurd e (by decide)))⟩ w (by decide) rfl
                · refine lv_aload_n hx hb dX9_readLine_90 rfl (lv_at hl 1 rfl) ?_
                  refine lv_aload_n hx hb dX9_readLine_91 rfl (lv_at hl 2 rfl) ?_
                  refine k_I (ce := 0) (sl := 0) (rest := []) (wr := []) (r_V (f := 6) [0, 1, 2, 3, 4, 5, 6, 7, 8, 9, 10, 11] M w V_HookedCity_Town_147 G776 G14 (c279_X9_readJuly l D T _ a0 a1 a2 a3 a4 a5 a6 a7 a8 a9 a10 x0 x1 x2 x3 x4 x5 x6 x7 x8 a11 x9 x10 x11 x12 x13 (some qq1) y0 r0 x14 x15 x16 h0 f0 f1 f2 f3 f4 f5 h1 f6 f7 x0_a x0_b x1_a x1_b x2_a x2_b x3_a x3_b x4_a x4_b x5_a x5_b x6_a x6_b x7_a x7_b x8_a x8_b x9_a x9_b x10_a x10_b x11_a x11_b x12_a x12_b x13_a x13_b o0_h x14_a x14_b x15_a x15_b x16_a x16_b f0_h f1_h f2_h f3_h f4_h f5_h f6_h f7_h) 0 clX9 rfl rfl (by decide) rfl hl.1 rfl (Nat.le_of_ble_eq_true rfl) dX9_readLine_92 (by decide) (by decide) (by decide) (by decide)) w [0, 1, 2, 3, 4, 5, 6, 7, 8, 9, 10, 11] [] rfl rfl (by decide) (by decide) rfl rfl (fun v u H locs hp w => ?_)
                  obtain ⟨z19, z20, z21, z22, z23, z24, fo25, fy26, fr27, z28, z29, z30⟩ := u
                  have hv : iI z19 = v := hp.1
                  subst hv
                  have z19_a : 0 ≤ z19 := hp.2.1
                  have z19_b : z19 ≤ 1 := hp.2.2.1
                  have z20_a : (-2147483648) ≤ z20 := hp.2.2.2.1
                  have z20_b : z20 ≤ 2147483647 := hp.2.2.2.2.1
                  have z21_a : 0 ≤ z21 := hp.2.2.2.2.2.1
                  have z21_b : z21 ≤ 1 := hp.2.2.2.2.2.2.1
                  have z22_a : 0 ≤ z22 := hp.2.2.2.2.2.2.2.1
                  have z22_b : z22 ≤ 940 := hp.2.2.2.2.2.2.2.2.1
                  have z23_a : 0 ≤ z23 := hp.2.2.2.2.2.2.2.2.2.1
                  have z23_b : z23 ≤ 940 := hp.2.2.2.2.2.2.2.2.2.2.1
                  have z24_a : 0 ≤ z24 := hp.2.2.2.2.2.2.2.2.2.2.2.1
                  have z24_b : z24 ≤ 5 := hp.2.2.2.2.2.2.2.2.2.2.2.2.1
                  have fo25_h : wok T fo25 := hp.2.2.2.2.2.2.2.2.2.2.2.2.2.1
                  have z28_a : (-2147483648) ≤ z28 := hp.2.2.2.2.2.2.2.2.2.2.2.2.2.2.1
                  have z28_b : z28 ≤ 2147483647 := hp.2.2.2.2.2.2.2.2.2.2.2.2.2.2.2.1
                  have z29_a : (-2147483648) ≤ z29 := hp.2.2.2.2.2.2.2.2.2.2.2.2.2.2.2.2.1
                  have z29_b : z29 ≤ 2147483647 := hp.2.2.2.2.2.2.2.2.2.2.2.2.2.2.2.2.2.1
                  have z30_a : 0 ≤ z30 := hp.2.2.2.2.2.2.2.2.2.2.2.2.2.2.2.2.2.2.1
                  have z30_b : z30 ≤ 940 := hp.2.2.2.2.2.2.2.2.2.2.2.2.2.2.2.2.2.2.2.1
                  have pq31 : ∀ (x : Tk × Int × Int) (rd : Int → Int) (h : Nat → Int64) (o : Int → Int), gC T x x13 x12 x11 y0 r0 x14 (some qq1) → XW rd h o h0 f0 f1 f2 f3 f4 f5 h1 f6 x0 x1 x3 x4 x5 x6 x7 x8 → XP (sOnce f7 x9 x10 x rd h o 2 0 60) z19 z29 z30 (fun y => gC T y z24 z23 z22 fy26 fr27 z28 fo25) (fun rd h o => XW rd h o h0 f0 f1 f2 f3 f4 f5 h1 f6 x0 x1 x3 x4 z20 x6 x7 z21) := hp.2.2.2.2.2.2.2.2.2.2.2.2.2.2.2.2.2.2.2.2.1
                  have pq32 : kpB z19 x15 z29 := hp.2.2.2.2.2.2.2.2.2.2.2.2.2.2.2.2.2.2.2.2.2
                  have w : WD D A s.heap [(a0, .inr (9, [.ref a2, .ref a3, .ref a4, .ref a5, .ref a6, .ref a7, .ref a8, .ref a9, .ref a10, .int (iI x0), .int (iI x1), .int (iI x2), .int (iI x3), .int (iI x4), .int (iI z20), .int (iI x6), .int (iI x7), .int (iI z21)])), (a1, .inr (8, [.ref a11, .int (iI x9), .int (iI x10), .int (iI z22), .int (iI z23), .int (iI z24), (va_rf fo25), .long fy26, .int fr27, .int (iI z28), .int (iI z29), .int (iI z30)])), (a2, .inl (T 1, 9, .inr (.inl h0))), (a3, .inl (T 0, 9, .inl (cI f0))), (a4, .inl (T 0, 9, .inl (cI f1))), (a5, .inl (T 0, 9, .inl (cI f2))), (a6, .inl (T 0, 9, .inl (cI f3))), (a7, .inl (T 0, 9, .inl (cI f4))), (a8, .inl (T 0, 9, .inl (cI f5))), (a9, .inl (T 1, 3, .inr (.inl h1))), (a10, .inl (T 0, 3, .inl (cI f6))), (a11, .inl (T 0, 940, .inl (cI f7)))] H locs := w
                  exact ret _ (z19, x0, x1, x3, x4, z20, x6, x7, z21, z22, z23, z24, fo25, fy26, fr27, z28, z29, z30, h0, f0, f1, f2, f3, f4, f5, h1, f6) _ _ _ _ _ [0, 1, 2, 3, 4, 5, 6, 7, 8, 9, 10, 11] dX9_readLine_95 (nb_n (by omega) (by omega)) ⟨rfl, z19_a, z19_b, x0_a, x0_b, x1_a, x1_b, x3_a, x3_b, x4_a, x4_b, z20_a, z20_b, x6_a, x6_b, x7_a, x7_b, z21_a, z21_b, z22_a, z22_b, z23_a, z23_b, z24_a, z24_b, fo25_h, z28_a, z28_b, z29_a, z29_b, z30_a, z30_b, f0_h, f1_h, f2_h, f3_h, f4_h, f5_h, f6_h, (show ∀ (x : Tk × Int × Int) (rd : Int → Int) (h : Nat → Int64) (o : Int → Int), gC T x x13 x12 x11 y0 r0 x14 (some qq1) → XW rd h o h0 f0 f1 f2 f3 f4 f5 h1 f6 x0 x1 x3 x4 x5 x6 x7 x8 → XP (sLine f7 x9 x10 x rd h o) z19 z29 z30 (fun y => gC T y z24 z23 z22 fy26 fr27 z28 fo25) (fun rd h o => XW rd h o h0 f0 f1 f2 f3 f4 f5 h1 f6 x0 x1 x3 x4 z20 x6 x7 z21) from (by intro x rd h o hx hw; rw [sLine, if_neg (cw_0 hx (j := 0) (by decide) c_7), if_neg (cw_0 hx (j := 1) (by decide) c_8), if_neg (cw_0 hx (j := 2) (by decide) c_9), if_neg (cw_0 hx (j := 3) (by decide) c_10), if_neg (cw_0 hx (j := 4) (by decide) c_11), if_neg (cw_0 hx (j := 5) (by decide) c_12), if_pos (cw_1 M.2.2.2.2.2.2.2.2.2 hx (j := 6) (by decide) c_13)]; exact pq31 x rd h o hx hw)), (show kpB z19 x15 z29 from pq32)⟩ w (by decide) rfl
              · refine lv_aload_n hx hb dX9_readLine_77 rfl (lv_at hl 1 rfl) ?_
                refine lv_aload_n hx hb dX9_readLine_78 rfl (lv_at hl 2 rfl) ?_
                refine k_I (ce := 0) (sl := 0) (rest := []) (wr := []) (r_V (f := 6) [0, 1, 2, 3, 4, 5, 6, 7, 8, 9, 10, 11] M w V_HookedCity_Town_141 G770 G13 (c280_X9_readYear l D T _ a0 a1 a2 a3 a4 a5 a6 a7 a8 a9 a10 x0 x1 x2 x3 x4 x5 x6 x7 x8 a11 x9 x10 x11 x12 x13 (some qq1) y0 r0 x14 x15 x16 h0 f0 f1 f2 f3 f4 f5 h1 f6 f7 x0_a x0_b x1_a x1_b x2_a x2_b x3_a x3_b x4_a x4_b x5_a x5_b x6_a x6_b x7_a x7_b x8_a x8_b x9_a x9_b x10_a x10_b x11_a x11_b x12_a x12_b x13_a x13_b o0_h x14_a x14_b x15_a x15_b x16_a x16_b f0_h f1_h f2_h f3_h f4_h f5_h f6_h f7_h) 0 clX9 rfl rfl (by decide) rfl hl.1 rfl (Nat.le_of_ble_eq_true rfl) dX9_readLine_79 (by decide) (by decide) (by decide) (by decide)) w [0, 1, 2, 3, 4, 5, 6, 7, 8, 9, 10, 11] [] rfl rfl (by decide) (by decide) rfl rfl (fun v u H locs hp w => ?_)
                obtain ⟨z33, z34, z35, z36, z37, z38, fo39, fy40, fr41, z42, z43, z44⟩ := u
                have hv : iI z33 = v := hp.1
                subst hv
                have z33_a : 0 ≤ z33 := hp.2.1
                have z33_b : z33 ≤ 1 := hp.2.2.1
                have z34_a : (-2147483648) ≤ z34 := hp.2.2.2.1
                have z34_b : z34 ≤ 2147483647 := hp.2.2.2.2.1
                have z35_a : 0 ≤ z35 := hp.2.2.2.2.2.1
                have z35_b : z35 ≤ 1 := hp.2.2.2.2.2.2.1
                have z36_a : 0 ≤ z36 := hp.2.2.2.2.2.2.2.1
                have z36_b : z36 ≤ 940 := hp.2.2.2.2.2.2.2.2.1
                have z37_a : 0 ≤ z37 := hp.2.2.2.2.2.2.2.2.2.1
                have z37_b : z37 ≤ 940 := hp.2.2.2.2.2.2.2.2.2.2.1
                have z38_a : 0 ≤ z38 := hp.2.2.2.2.2.2.2.2.2.2.2.1
                have z38_b : z38 ≤ 5 := hp.2.2.2.2.2.2.2.2.2.2.2.2.1
                have fo39_h : wok T fo39 := hp.2.2.2.2.2.2.2.2.2.2.2.2.2.1
                have z42_a : (-2147483648) ≤ z42 := hp.2.2.2.2.2.2.2.2.2.2.2.2.2.2.1
                have z42_b : z42 ≤ 2147483647 := hp.2.2.2.2.2.2.2.2.2.2.2.2.2.2.2.1
                have z43_a : (-2147483648) ≤ z43 := hp.2.2.2.2.2.2.2.2.2.2.2.2.2.2.2.2.1
                have z43_b : z43 ≤ 2147483647 := hp.2.2.2.2.2.2.2.2.2.2.2.2.2.2.2.2.2.1
                have z44_a : 0 ≤ z44 := hp.2.2.2.2.2.2.2.2.2.2.2.2.2.2.2.2.2.2.1
                have z44_b : z44 ≤ 940 := hp.2.2.2.2.2.2.2.2.2.2.2.2.2.2.2.2.2.2.2.1
                have pq45 : ∀ (x : Tk × Int × Int) (rd : Int → Int) (h : Nat → Int64) (o : Int → Int), gC T x x13 x12 x11 y0 r0 x14 (some qq1) → XW rd h o h0 f0 f1 f2 f3 f4 f5 h1 f6 x0 x1 x3 x4 x5 x6 x7 x8 → XP (sOnce f7 x9 x10 x rd h o 1 2 60) z33 z43 z44 (fun y => gC T y z38 z37 z36 fy40 fr41 z42 fo39) (fun rd h o => XW rd h o h0 f0 f1 f2 f3 f4 f5 h1 f6 x0 x1 x3 z34 x5 x6 z35 x8) := hp.2.2.2.2.2.2.2.2.2.2.2.2.2.2.2.2.2.2.2.2.1
                have pq46 : kpB z33 x15 z43 := hp.2.2.2.2.2.2.2.2.2.2.2.2.2.2.2.2.2.2.2.2.2
                have w : WD D A s.heap [(a0, .inr (9, [.ref a2, .ref a3, .ref a4, .ref a5, .ref a6, .ref a7, .ref a8, .ref a9, .ref a10, .int (iI x0), .int (iI x1), .int (iI x2), .int (iI x3), .int (iI z34), .int (iI x5), .int (iI x6), .int (iI z35), .int (iI x8)])), (a1, .inr (8, [.ref a11, .int (iI x9), .int (iI x10), .int (iI z36), .int (iI z37), .int (iI z38), (va_rf fo39), .long fy40, .int fr41, .int (iI z42), .int (iI z43), .int (iI z44)])), (a2, .inl (T 1, 9, .inr (.inl h0))), (a3, .inl (T 0, 9, .inl (cI f0))), (a4, .inl (T 0, 9, .inl (cI f1))), (a5, .inl (T 0, 9, .inl (cI f2))), (a6, .inl (T 0, 9, .inl (cI f3))), (a7, .inl (T 0, 9, .inl (cI f4))), (a8, .inl (T 0, 9, .inl (cI f5))), (a9, .inl (T 1, 3, .inr (.inl h1))), (a10, .inl (T 0, 3, .inl (cI f6))), (a11, .inl (T 0, 940, .inl (cI f7)))] H locs := w
                exact ret _ (z33, x0, x1, x3, z34, x5, x6, z35, x8, z36, z37, z38, fo39, fy40, fr41, z42, z43, z44, h0, f0, f1, f2, f3, f4, f5, h1, f6) _ _ _ _ _ [0, 1, 2, 3, 4, 5, 6, 7, 8, 9, 10, 11] dX9_readLine_82 (nb_n (by omega) (by omega)) ⟨rfl, z33_a, z33_b, x0_a, x0_b, x1_a, x1_b, x3_a, x3_b, z34_a, z34_b, x5_a, x5_b, x6_a, x6_b, z35_a, z35_b, x8_a, x8_b, z36_a, z36_b, z37_a, z37_b, z38_a, z38_b, fo39_h, z42_a, z42_b, z43_a, z43_b, z44_a, z44_b, f0_h, f1_h, f2_h, f3_h, f4_h, f5_h, f6_h, (show ∀ (x : Tk × Int × Int) (rd : Int → Int) (h : Nat → Int64) (o : Int → Int), gC T x x13 x12 x11 y0 r0 x14 (some qq1) → XW rd h o h0 f0 f1 f2 f3 f4 f5 h1 f6 x0 x1 x3 x4 x5 x6 x7 x8 → XP (sLine f7 x9 x10 x rd h o) z33 z43 z44 (fun y => gC T y z38 z37 z36 fy40 fr41 z42 fo39) (fun rd h o => XW rd h o h0 f0 f1 f2 f3 f4 f5 h1 f6 x0 x1 x3 z34 x5 x6 z35 x8) from (by intro x rd h o hx hw; rw [sLine, if_neg (cw_0 hx (j := 0) (by decide) c_7), if_neg (cw_0 hx (j := 1) (by decide) c_8), if_neg (cw_0 hx (j := 2) (by decide) c_9), if_neg (cw_0 hx (j := 3) (by decide) c_10), if_neg (cw_0 hx (j := 4) (by decide) c_11), if_pos (cw_1 M.2.2.2.2.2.2.2.2.2 hx (j := 5) (by decide) c_12)]; exact pq45 x rd h o hx hw)), (show kpB z33 x15 z43 from pq46)⟩ w (by decide) rfl
            · refine lv_aload_n hx hb dX9_readLine_64 rfl (lv_at hl 1 rfl) ?_
              refine lv_aload_n hx hb dX9_readLine_65 rfl (lv_at hl 2 rfl) ?_
              refine k_I (ce := 0) (sl := 0) (rest := []) (wr := []) (r_V (f := 6) [0, 1, 2, 3, 4, 5, 6, 7, 8, 9, 10, 11] M w V_HookedCity_Town_135 G760 G11 (c281_X9_readSpare l D T _ a0 a1 a2 a3 a4 a5 a6 a7 a8 a9 a10 x0 x1 x2 x3 x4 x5 x6 x7 x8 a11 x9 x10 x11 x12 x13 (some qq1) y0 r0 x14 x15 x16 h0 f0 f1 f2 f3 f4 f5 h1 f6 f7 x0_a x0_b x1_a x1_b x2_a x2_b x3_a x3_b x4_a x4_b x5_a x5_b x6_a x6_b x7_a x7_b x8_a x8_b x9_a x9_b x10_a x10_b x11_a x11_b x12_a x12_b x13_a x13_b o0_h x14_a x14_b x15_a x15_b x16_a x16_b f0_h f1_h f2_h f3_h f4_h f5_h f6_h f7_h) 0 clX9 rfl rfl (by decide) rfl hl.1 rfl (Nat.le_of_ble_eq_true rfl) dX9_readLine_66 (by decide) (by decide) (by decide) (by decide)) w [0, 1, 2, 3, 4, 5, 6, 7, 8, 9, 10, 11] [] rfl rfl (by decide) (by decide) rfl rfl (fun v u H locs hp w => ?_)
              obtain ⟨z47, z48, z49, z50, z51, z52, fo53, fy54, fr55, z56, z57, z58⟩ := u
              have hv : iI z47 = v := hp.1
              subst hv
              have z47_a : 0 ≤ z47 := hp.2.1
              have z47_b : z47 ≤ 1 := hp.2.2.1
              have z48_a : (-2147483648) ≤ z48 := hp.2.2.2.1
              have z48_b : z48 ≤ 2147483647 := hp.2.2.2.2.1
              have z49_a : 0 ≤ z49 := hp.2.2.2.2.2.1
              have z49_b : z49 ≤ 1 := hp.2.2.2.2.2.2.1
              have z50_a : 0 ≤ z50 := hp.2.2.2.2.2.2.2.1
              have z50_b : z50 ≤ 940 := hp.2.2.2.2.2.2.2.2.1
              have z51_a : 0 ≤ z51 := hp.2.2.2.2.2.2.2.2.2.1
              have z51_b : z51 ≤ 940 := hp.2.2.2.2.2.2.2.2.2.2.1
              have z52_a : 0 ≤ z52 := hp.2.2.2.2.2.2.2.2.2.2.2.1
              have z52_b : z52 ≤ 5 := hp.2.2.2.2.2.2.2.2.2.2.2.2.1
              have fo53_h : wok T fo53 := hp.2.2.2.2.2.2.2.2.2.2.2.2.2.1
              have z56_a : (-2147483648) ≤ z56 := hp.2.2.2.2.2.2.2.2.2.2.2.2.2.2.1
              have z56_b : z56 ≤ 2147483647 := hp.2.2.2.2.2.2.2.2.2.2.2.2.2.2.2.1
              have z57_a : (-2147483648) ≤ z57 := hp.2.2.2.2.2.2.2.2.2.2.2.2.2.2.2.2.1
              have z57_b : z57 ≤ 2147483647 := hp.2.2.2.2.2.2.2.2.2.2.2.2.2.2.2.2.2.1
              have z58_a : 0 ≤ z58 := hp.2.2.2.2.2.2.2.2.2.2.2.2.2.2.2.2.2.2.1
              have z58_b : z58 ≤ 940 := hp.2.2.2.2.2.2.2.2.2.2.2.2.2.2.2.2.2.2.2.1
              have pq59 : ∀ (x : Tk × Int × Int) (rd : Int → Int) (h : Nat → Int64) (o : Int → Int), gC T x x13 x12 x11 y0 r0 x14 (some qq1) → XW rd h o h0 f0 f1 f2 f3 f4 f5 h1 f6 x0 x1 x3 x4 x5 x6 x7 x8 → XP (sOnce f7 x9 x10 x rd h o 0 0 20) z47 z57 z58 (fun y => gC T y z52 z51 z50 fy54 fr55 z56 fo53) (fun rd h o => XW rd h o h0 f0 f1 f2 f3 f4 f5 h1 f6 x0 x1 z48 x4 x5 z49 x7 x8) := hp.2.2.2.2.2.2.2.2.2.2.2.2.2.2.2.2.2.2.2.2.1
              have pq60 : kpB z47 x15 z57 := hp.2.2.2.2.2.2.2.2.2.2.2.2.2.2.2.2.2.2.2.2.2
              have w : WD D A s.heap [(a0, .inr (9, [.ref a2, .ref a3, .ref a4, .ref a5, .ref a6, .ref a7, .ref a8, .ref a9, .ref a10, .int (iI x0), .int (iI x1), .int (iI x2), .int (iI z48), .int (iI x4), .int (iI x5), .int (iI z49), .int (iI x7), .int (iI x8)])), (a1, .inr (8, [.ref a11, .int (iI x9), .int (iI x10), .int (iI z50), .int (iI z51), .int (iI z52), (va_rf fo53), .long fy54, .int fr55, .int (iI z56), .int (iI z57), .int (iI z58)])), (a2, .inl (T 1, 9, .inr (.inl h0))), (a3, .inl (T 0, 9, .inl (cI f0))), (a4, .inl (T 0, 9, .inl (cI f1))), (a5, .inl (T 0, 9, .inl (cI f2))), (a6, .inl (T 0, 9, .inl (cI f3))), (a7, .inl (T 0, 9, .inl (cI f4))), (a8, .inl (T 0, 9, .inl (cI f5))), (a9, .inl (T 1, 3, .inr (.inl h1))), (a10, .inl (T 0, 3, .inl (cI f6))), (a11, .inl (T 0, 940, .inl (cI f7)))] H locs := w
              exact ret _ (z47, x0, x1, z48, x4, x5, z49, x7, x8, z50, z51, z52, fo53, fy54, fr55, z56, z57, z58, h0, f0, f1, f2, f3, f4, f5, h1, f6) _ _ _ _ _ [0, 1, 2, 3, 4, 5, 6, 7, 8, 9, 10, 11] dX9_readLine_69 (nb_n (by omega) (by omega)) ⟨rfl, z47_a, z47_b, x0_a, x0_b, x1_a, x1_b, z48_a, z48_b, x4_a, x4_b, x5_a, x5_b, z49_a, z49_b, x7_a, x7_b, x8_a, x8_b, z50_a, z50_b, z51_a, z51_b, z52_a, z52_b, fo53_h, z56_a, z56_b, z57_a, z57_b, z58_a, z58_b, f0_h, f1_h, f2_h, f3_h, f4_h, f5_h, f6_h, (show ∀ (x : Tk × Int × Int) (rd : Int → Int) (h : Nat → Int64) (o : Int → Int), gC T x x13 x12 x11 y0 r0 x14 (some qq1) → XW rd h o h0 f0 f1 f2 f3 f4 f5 h1 f6 x0 x1 x3 x4 x5 x6 x7 x8 → XP (sLine f7 x9 x10 x rd h o) z47 z57 z58 (fun y => gC T y z52 z51 z50 fy54 fr55 z56 fo53) (fun rd h o => XW rd h o h0 f0 f1 f2 f3 f4 f5 h1 f6 x0 x1 z48 x4 x5 z49 x7 x8) from (by intro x rd h o hx hw; rw [sLine, if_neg (cw_0 hx (j := 0) (by decide) c_7), if_neg (cw_0 hx (j := 1) (by decide) c_8), if_neg (cw_0 hx (j := 2) (by decide) c_9), if_neg (cw_0 hx (j := 3) (by decide) c_10), if_pos (cw_1 M.2.2.2.2.2.2.2.2.2 hx (j := 4) (by decide) c_11)]; exact pq59 x rd h o hx hw)), (show kpB z47 x15 z57 from pq60)⟩ w (by decide) rfl
          · refine lv_aload_n hx hb dX9_readLine_51 rfl (lv_at hl 1 rfl) ?_
            refine lv_aload_n hx hb dX9_readLine_52 rfl (lv_at hl 2 rfl) ?_
            refine k_I (ce := 0) (sl := 0) (rest := []) (wr := []) (r_V (f := 5) [0, 1, 2, 3, 4, 5, 6, 7, 8, 9, 10, 11] M w V_HookedCity_Town_129 G754 G10 (c285_X9_readDone l D T _ a0 a1 a2 a3 a4 a5 a6 a7 a8 a9 a10 x0 x1 x2 x3 x4 x5 x6 x7 x8 a11 x9 x10 x11 x12 x13 (some qq1) y0 r0 x14 x15 x16 h0 f0 f1 f2 f3 f4 f5 h1 f6 f7 x0_a x0_b x1_a x1_b x2_a x2_b x3_a x3_b x4_a x4_b x5_a x5_b x6_a x6_b x7_a x7_b x8_a x8_b x9_a x9_b x10_a x10_b x11_a x11_b x12_a x12_b x13_a x13_b o0_h x14_a x14_b x15_a x15_b x16_a x16_b f0_h f1_h f2_h f3_h f4_h f5_h f6_h f7_h) 0 clX9 rfl rfl (by decide) rfl hl.1 rfl (Nat.le_of_ble_eq_true rfl) dX9_readLine_53 (by decide) (by decide) (by decide) (by decide)) w [0, 1, 2, 3, 4, 5, 6, 7, 8, 9, 10, 11] [] rfl rfl (by decide) (by decide) rfl rfl (fun v u H locs hp w => ?_)
            obtain ⟨z61, z62, z63, z64, fo65, fy66, fr67, z68, z69, z70, ff71, ff72⟩ := u
            have hv : iI z61 = v := hp.1
            subst hv
            have z61_a : 0 ≤ z61 := hp.2.1
            have z61_b : z61 ≤ 1 := hp.2.2.1
            have z62_a : 0 ≤ z62 := hp.2.2.2.1
            have z62_b : z62 ≤ 940 := hp.2.2.2.2.1
            have z63_a : 0 ≤ z63 := hp.2.2.2.2.2.1
            have z63_b : z63 ≤ 940 := hp.2.2.2.2.2.2.1
            have z64_a : 0 ≤ z64 := hp.2.2.2.2.2.2.2.1
            have z64_b : z64 ≤ 5 := hp.2.2.2.2.2.2.2.2.1
            have fo65_h : wok T fo65 := hp.2.2.2.2.2.2.2.2.2.1
            have z68_a : (-2147483648) ≤ z68 := hp.2.2.2.2.2.2.2.2.2.2.1
            have z68_b : z68 ≤ 2147483647 := hp.2.2.2.2.2.2.2.2.2.2.2.1
            have z69_a : (-2147483648) ≤ z69 := hp.2.2.2.2.2.2.2.2.2.2.2.2.1
            have z69_b : z69 ≤ 2147483647 := hp.2.2.2.2.2.2.2.2.2.2.2.2.2.1
            have z70_a : 0 ≤ z70 := hp.2.2.2.2.2.2.2.2.2.2.2.2.2.2.1
            have z70_b : z70 ≤ 940 := hp.2.2.2.2.2.2.2.2.2.2.2.2.2.2.2.1
            have ff71_h : rng (-1) 8 ff71 := hp.2.2.2.2.2.2.2.2.2.2.2.2.2.2.2.2.1
            have ff72_h : rng (-1) 8 ff72 := hp.2.2.2.2.2.2.2.2.2.2.2.2.2.2.2.2.2.1
            have pq73 : ∀ (x : Tk × Int × Int) (rd : Int → Int) (h : Nat → Int64) (o : Int → Int), gC T x x13 x12 x11 y0 r0 x14 (some qq1) → XW rd h o h0 f0 f1 f2 f3 f4 f5 h1 f6 x0 x1 x3 x4 x5 x6 x7 x8 → XP (sDone f7 x9 x10 x rd h o) z61 z69 z70 (fun y => gC T y z64 z63 z62 fy66 fr67 z68 fo65) (fun rd h o => XW rd h o h0 f0 f1 f2 f3 ff71 ff72 h1 f6 x0 x1 x3 x4 x5 x6 x7 x8) := hp.2.2.2.2.2.2.2.2.2.2.2.2.2.2.2.2.2.2.1
            have pq74 : kpB z61 x15 z69 := hp.2.2.2.2.2.2.2.2.2.2.2.2.2.2.2.2.2.2.2
            have w : WD D A s.heap [(a0, .inr (9, [.ref a2, .ref a3, .ref a4, .ref a5, .ref a6, .ref a7, .ref a8, .ref a9, .ref a10, .int (iI x0), .int (iI x1), .int (iI x2), .int (iI x3), .int (iI x4), .int (iI x5), .int (iI x6), .int (iI x7), .int (iI x8)])), (a1, .inr (8, [.ref a11, .int (iI x9), .int (iI x10), .int (iI z62), .int (iI z63), .int (iI z64), (va_rf fo65), .long fy66, .int fr67, .int (iI z68), .int (iI z69), .int (iI z70)])), (a2, .inl (T 1, 9, .inr (.inl h0))), (a3, .inl (T 0, 9, .inl (cI f0))), (a4, .inl (T 0, 9, .inl (cI f1))), (a5, .inl (T 0, 9, .inl (cI f2))), (a6, .inl (T 0, 9, .inl (cI f3))), (a7, .inl (T 0, 9, .inl (cI ff71))), (a8, .inl (T 0, 9, .inl (cI ff72))), (a9, .inl (T 1, 3, .inr (.inl h1))), (a10, .inl (T 0, 3, .inl (cI f6))), (a11, .inl (T 0, 940, .inl (cI f7)))] H locs := w
            exact ret _ (z61, x0, x1, x3, x4, x5, x6, x7, x8, z62, z63, z64, fo65, fy66, fr67, z68, z69, z70, h0, f0, f1, f2, f3, ff71, ff72, h1, f6) _ _ _ _ _ [0, 1, 2, 3, 4, 5, 6, 7, 8, 9, 10, 11] dX9_readLine_56 (nb_n (by omega) (by omega)) ⟨rfl, z61_a, z61_b, x0_a, x0_b, x1_a, x1_b, x3_a, x3_b, x4_a, x4_b, x5_a, x5_b, x6_a, x6_b, x7_a, x7_b, x8_a, x8_b, z62_a, z62_b, z63_a, z63_b, z64_a, z64_b, fo65_h, z68_a, z68_b, z69_a, z69_b, z70_a, z70_b, f0_h, f1_h, f2_h, f3_h, ff71_h, ff72_h, f6_h, (show ∀ (x : Tk × Int × Int) (rd : Int → Int) (h : Nat → Int64) (o : Int → Int), gC T x x13 x12 x11 y0 r0 x14 (some qq1) → XW rd h o h0 f0 f1 f2 f3 f4 f5 h1 f6 x0 x1 x3 x4 x5 x6 x7 x8 → XP (sLine f7 x9 x10 x rd h o) z61 z69 z70 (fun y => gC T y z64 z63 z62 fy66 fr67 z68 fo65) (fun rd h o => XW rd h o h0 f0 f1 f2 f3 ff71 ff72 h1 f6 x0 x1 x3 x4 x5 x6 x7 x8) from (by intro x rd h o hx hw; rw [sLine, if_neg (cw_0 hx (j := 0) (by decide) c_7), if_neg (cw_0 hx (j := 1) (by decide) c_8), if_neg (cw_0 hx (j := 2) (by decide) c_9), if_pos (cw_1 M.2.2.2.2.2.2.2.2.2 hx (j := 3) (by decide) c_10)]; exact pq73 x rd h o hx hw)), (show kpB z61 x15 z69 from pq74)⟩ w (by decide) rfl
        · refine lv_aload_n hx hb dX9_readLine_38 rfl (lv_at hl 1 rfl) ?_
          refine lv_aload_n hx hb dX9_readLine_39 rfl (lv_at hl 2 rfl) ?_
          refine k_I (ce := 0) (sl := 0) (rest := []) (wr := []) (r_V (f := 5) [0, 1, 2, 3, 4, 5, 6, 7, 8, 9, 10, 11] M w V_HookedCity_Town_123 G740 G8 (c286_X9_readStreet l D T _ a0 a1 a2 a3 a4 a5 a6 a7 a8 a9 a10 x0 x1 x2 x3 x4 x5 x6 x7 x8 a11 x9 x10 x11 x12 x13 (some qq1) y0 r0 x14 x15 x16 h0 f0 f1 f2 f3 f4 f5 h1 f6 f7 x0_a x0_b x1_a x1_b x2_a x2_b x3_a x3_b x4_a x4_b x5_a x5_b x6_a x6_b x7_a x7_b x8_a x8_b x9_a x9_b x10_a x10_b x11_a x11_b x12_a x12_b x13_a x13_b o0_h x14_a x14_b x15_a x15_b x16_a x16_b f0_h f1_h f2_h f3_h f4_h f5_h f6_h f7_h) 0 clX9 rfl rfl (by decide) rfl hl.1 rfl (Nat.le_of_ble_eq_true rfl) dX9_readLine_40 (by decide) (by decide) (by decide) (by decide)) w [0, 1, 2, 3, 4, 5, 6, 7, 8, 9, 10, 11] [] rfl rfl (by decide) (by decide) rfl rfl (fun v u H locs hp w => ?_)
          obtain ⟨z75, z76, z77, z78, fo79, fy80, fr81, z82, z83, z84, ff85⟩ := u
          have hv : iI z75 = v := hp.1
          subst hv
          have z75_a : 0 ≤ z75 := hp.2.1
          have z75_b : z75 ≤ 1 := hp.2.2.1
          have z76_a : 0 ≤ z76 := hp.2.2.2.1
          have z76_b : z76 ≤ 940 := hp.2.2.2.2.1
          have z77_a : 0 ≤ z77 := hp.2.2.2.2.2.1
          have z77_b : z77 ≤ 940 := hp.2.2.2.2.2.2.1
          have z78_a : 0 ≤ z78 := hp.2.2.2.2.2.2.2.1
          have z78_b : z78 ≤ 5 := hp.2.2.2.2.2.2.2.2.1
          have fo79_h : wok T fo79 := hp.2.2.2.2.2.2.2.2.2.1
          have z82_a : (-2147483648) ≤ z82 := hp.2.2.2.2.2.2.2.2.2.2.1
          have z82_b : z82 ≤ 2147483647 := hp.2.2.2.2.2.2.2.2.2.2.2.1
          have z83_a : (-2147483648) ≤ z83 := hp.2.2.2.2.2.2.2.2.2.2.2.2.1
          have z83_b : z83 ≤ 2147483647 := hp.2.2.2.2.2.2.2.2.2.2.2.2.2.1
          have z84_a : 0 ≤ z84 := hp.2.2.2.2.2.2.2.2.2.2.2.2.2.2.1
          have z84_b : z84 ≤ 940 := hp.2.2.2.2.2.2.2.2.2.2.2.2.2.2.2.1
          have ff85_h : rng 0 511 ff85 := hp.2.2.2.2.2.2.2.2.2.2.2.2.2.2.2.2.1
          have pq86 : ∀ (x : Tk × Int × Int) (rd : Int → Int) (h : Nat → Int64) (o : Int → Int), gC T x x13 x12 x11 y0 r0 x14 (some qq1) → XW rd h o h0 f0 f1 f2 f3 f4 f5 h1 f6 x0 x1 x3 x4 x5 x6 x7 x8 → XP (sStreet f7 x9 x10 x rd h o) z75 z83 z84 (fun y => gC T y z78 z77 z76 fy80 fr81 z82 fo79) (fun rd h o => XW rd h o h0 f0 f1 f2 ff85 f4 f5 h1 f6 x0 x1 x3 x4 x5 x6 x7 x8) := hp.2.2.2.2.2.2.2.2.2.2.2.2.2.2.2.2.2.1
          have pq87 : kpB z75 x15 z83 := hp.2.2.2.2.2.2.2.2.2.2.2.2.2.2.2.2.2.2
          have w : WD D A s.heap [(a0, .inr (9, [.ref a2, .ref a3, .ref a4, .ref a5, .ref a6, .ref a7, .ref a8, .ref a9, .ref a10, .int (iI x0), .int (iI x1), .int (iI x2), .int (iI x3), .int (iI x4), .int (iI x5), .int (iI x6), .int (iI x7), .int (iI x8)])), (a1, .inr (8, [.ref a11, .int (iI x9), .int (iI x10), .int (iI z76), .int (iI z77), .int (iI z78), (va_rf fo79), .long fy80, .int fr81, .int (iI z82), .int (iI z83), .int (iI z84)])), (a2, .inl (T 1, 9, .inr (.inl h0))), (a3, .inl (T 0, 9, .inl (cI f0))), (a4, .inl (T 0, 9, .inl (cI f1))), (a5, .inl (T 0, 9, .inl (cI f2))), (a6, .inl (T 0, 9, .inl (cI ff85))), (a7, .inl (T 0, 9, .inl (cI f4))), (a8, .inl (T 0, 9, .inl (cI f5))), (a9, .inl (T 1, 3, .inr (.inl h1))), (a10, .inl (T 0, 3, .inl (cI f6))), (a11, .inl (T 0, 940, .inl (cI f7)))] H locs := w
          exact ret _ (z75, x0, x1, x3, x4, x5, x6, x7, x8, z76, z77, z78, fo79, fy80, fr81, z82, z83, z84, h0, f0, f1, f2, ff85, f4, f5, h1, f6) _ _ _ _ _ [0, 1, 2, 3, 4, 5, 6, 7, 8, 9, 10, 11] dX9_readLine_43 (nb_n (by omega) (by omega)) ⟨rfl, z75_a, z75_b, x0_a, x0_b, x1_a, x1_b, x3_a, x3_b, x4_a, x4_b, x5_a, x5_b, x6_a, x6_b, x7_a, x7_b, x8_a, x8_b, z76_a, z76_b, z77_a, z77_b, z78_a, z78_b, fo79_h, z82_a, z82_b, z83_a, z83_b, z84_a, z84_b, f0_h, f1_h, f2_h, ff85_h, f4_h, f5_h, f6_h, (show ∀ (x : Tk × Int × Int) (rd : Int → Int) (h : Nat → Int64) (o : Int → Int), gC T x x13 x12 x11 y0 r0 x14 (some qq1) → XW rd h o h0 f0 f1 f2 f3 f4 f5 h1 f6 x0 x1 x3 x4 x5 x6 x7 x8 → XP (sLine f7 x9 x10 x rd h o) z75 z83 z84 (fun y => gC T y z78 z77 z76 fy80 fr81 z82 fo79) (fun rd h o => XW rd h o h0 f0 f1 f2 ff85 f4 f5 h1 f6 x0 x1 x3 x4 x5 x6 x7 x8) from (by intro x rd h o hx hw; rw [sLine, if_neg (cw_0 hx (j := 0) (by decide) c_7), if_neg (cw_0 hx (j := 1) (by decide) c_8), if_pos (cw_1 M.2.2.2.2.2.2.2.2.2 hx (j := 2) (by decide) c_9)]; exact pq86 x rd h o hx hw)), (show kpB z75 x15 z83 from pq87)⟩ w (by decide) rfl
      · refine lv_aload_n hx hb dX9_readLine_25 rfl (lv_at hl 1 rfl) ?_
        refine lv_aload_n hx hb dX9_readLine_26 rfl (lv_at hl 2 rfl) ?_
        refine k_I (ce := 0) (sl := 0) (rest := []) (wr := []) (r_V (f := 5) [0, 1, 2, 3, 4, 5, 6, 7, 8, 9, 10, 11] M w V_HookedCity_Town_117 G734 G7 (c289_X9_readMaid l D T _ a0 a1 a2 a3 a4 a5 a6 a7 a8 a9 a10 x0 x1 x2 x3 x4 x5 x6 x7 x8 a11 x9 x10 x11 x12 x13 (some qq1) y0 r0 x14 x15 x16 h0 f0 f1 f2 f3 f4 f5 h1 f6 f7 x0_a x0_b x1_a x1_b x2_a x2_b x3_a x3_b x4_a x4_b x5_a x5_b x6_a x6_b x7_a x7_b x8_a x8_b x9_a x9_b x10_a x10_b x11_a x11_b x12_a x12_b x13_a x13_b o0_h x14_a x14_b x15_a x15_b x16_a x16_b f0_h f1_h f2_h f3_h f4_h f5_h f6_h f7_h) 0 clX9 rfl rfl (by decide) rfl hl.1 rfl (Nat.le_of_ble_eq_true rfl) dX9_readLine_27 (by decide) (by decide) (by decide) (by decide)) w [0, 1, 2, 3, 4, 5, 6, 7, 8, 9, 10, 11] [] rfl rfl (by decide) (by decide) rfl rfl (fun v u H locs hp w => ?_)
        obtain ⟨z88, z89, z90, z91, z92, fo93, fy94, fr95, z96, z97, z98, fh99, ff100⟩ := u
        have hv : iI z88 = v := hp.1
        subst hv
        have z88_a : 0 ≤ z88 := hp.2.1
        have z88_b : z88 ≤ 1 := hp.2.2.1
        have z89_a : 0 ≤ z89 := hp.2.2.2.1
        have z89_b : z89 ≤ 3 := hp.2.2.2.2.1
        have z90_a : 0 ≤ z90 := hp.2.2.2.2.2.1
        have z90_b : z90 ≤ 940 := hp.2.2.2.2.2.2.1
        have z91_a : 0 ≤ z91 := hp.2.2.2.2.2.2.2.1
        have z91_b : z91 ≤ 940 := hp.2.2.2.2.2.2.2.2.1
        have z92_a : 0 ≤ z92 := hp.2.2.2.2.2.2.2.2.2.1
        have z92_b : z92 ≤ 5 := hp.2.2.2.2.2.2.2.2.2.2.1
        have fo93_h : wok T fo93 := hp.2.2.2.2.2.2.2.2.2.2.2.1
        have z96_a : (-2147483648) ≤ z96 := hp.2.2.2.2.2.2.2.2.2.2.2.2.1
        have z96_b : z96 ≤ 2147483647 := hp.2.2.2.2.2.2.2.2.2.2.2.2.2.1
        have z97_a : (-2147483648) ≤ z97 := hp.2.2.2.2.2.2.2.2.2.2.2.2.2.2.1
        have z97_b : z97 ≤ 2147483647 := hp.2.2.2.2.2.2.2.2.2.2.2.2.2.2.2.1
        have z98_a : 0 ≤ z98 := hp.2.2.2.2.2.2.2.2.2.2.2.2.2.2.2.2.1
        have z98_b : z98 ≤ 940 := hp.2.2.2.2.2.2.2.2.2.2.2.2.2.2.2.2.2.1
        have ff100_h : rng (-2147483648) 2147483647 ff100 := hp.2.2.2.2.2.2.2.2.2.2.2.2.2.2.2.2.2.2.1
        have pq101 : ∀ (x : Tk × Int × Int) (rd : Int → Int) (h : Nat → Int64) (o : Int → Int), gC T x x13 x12 x11 y0 r0 x14 (some qq1) → XW rd h o h0 f0 f1 f2 f3 f4 f5 h1 f6 x0 x1 x3 x4 x5 x6 x7 x8 → XP (sMaid f7 x9 x10 x rd h o) z88 z97 z98 (fun y => gC T y z92 z91 z90 fy94 fr95 z96 fo93) (fun rd h o => XW rd h o h0 f0 f1 f2 f3 f4 f5 fh99 ff100 x0 z89 x3 x4 x5 x6 x7 x8) := hp.2.2.2.2.2.2.2.2.2.2.2.2.2.2.2.2.2.2.2.1
        have pq102 : kpB z88 x15 z97 := hp.2.2.2.2.2.2.2.2.2.2.2.2.2.2.2.2.2.2.2.2
        have w : WD D A s.heap [(a0, .inr (9, [.ref a2, .ref a3, .ref a4, .ref a5, .ref a6, .ref a7, .ref a8, .ref a9, .ref a10, .int (iI x0), .int (iI z89), .int (iI x2), .int (iI x3), .int (iI x4), .int (iI x5), .int (iI x6), .int (iI x7), .int (iI x8)])), (a1, .inr (8, [.ref a11, .int (iI x9), .int (iI x10), .int (iI z90), .int (iI z91), .int (iI z92), (va_rf fo93), .long fy94, .int fr95, .int (iI z96), .int (iI z97), .int (iI z98)])), (a2, .inl (T 1, 9, .inr (.inl h0))), (a3, .inl (T 0, 9, .inl (cI f0))), (a4, .inl (T 0, 9, .inl (cI f1))), (a5, .inl (T 0, 9, .inl (cI f2))), (a6, .inl (T 0, 9, .inl (cI f3))), (a7, .inl (T 0, 9, .inl (cI f4))), (a8, .inl (T 0, 9, .inl (cI f5))), (a9, .inl (T 1, 3, .inr (.inl fh99))), (a10, .inl (T 0, 3, .inl (cI ff100))), (a11, .inl (T 0, 940, .inl (cI f7)))] H locs := w
        exact ret _ (z88, x0, z89, x3, x4, x5, x6, x7, x8, z90, z91, z92, fo93, fy94, fr95, z96, z97, z98, h0, f0, f1, f2, f3, f4, f5, fh99, ff100) _ _ _ _ _ [0, 1, 2, 3, 4, 5, 6, 7, 8, 9, 10, 11] dX9_readLine_30 (nb_n (by omega) (by omega)) ⟨rfl, z88_a, z88_b, x0_a, x0_b, z89_a, z89_b, x3_a, x3_b, x4_a, x4_b, x5_a, x5_b, x6_a, x6_b, x7_a, x7_b, x8_a, x8_b, z90_a, z90_b, z91_a, z91_b, z92_a, z92_b, fo93_h, z96_a, z96_b, z97_a, z97_b, z98_a, z98_b, f0_h, f1_h, f2_h, f3_h, f4_h, f5_h, ff100_h, (show ∀ (x : Tk × Int × Int) (rd : Int → Int) (h : Nat → Int64) (o : Int → Int), gC T x x13 x12 x11 y0 r0 x14 (some qq1) → XW rd h o h0 f0 f1 f2 f3 f4 f5 h1 f6 x0 x1 x3 x4 x5 x6 x7 x8 → XP (sLine f7 x9 x10 x rd h o) z88 z97 z98 (fun y => gC T y z92 z91 z90 fy94 fr95 z96 fo93) (fun rd h o => XW rd h o h0 f0 f1 f2 f3 f4 f5 fh99 ff100 x0 z89 x3 x4 x5 x6 x7 x8) from (by intro x rd h o hx hw; rw [sLine, if_neg (cw_0 hx (j := 0) (by decide) c_7), if_pos (cw_1 M.2.2.2.2.2.2.2.2.2 hx (j := 1) (by decide) c_8)]; exact pq101 x rd h o hx hw)), (show kpB z88 x15 z97 from pq102)⟩ w (by decide) rfl
    · refine lv_aload_n hx hb dX9_readLine_12 rfl (lv_at hl 1 rfl) ?_
      refine lv_aload_n hx hb dX9_readLine_13 rfl (lv_at hl 2 rfl) ?_
      refine k_I (ce := 0) (sl := 0) (rest := []) (wr := []) (r_V (f := 5) [0, 1, 2, 3, 4, 5, 6, 7, 8, 9, 10, 11] M w V_HookedCity_Town_111 G707 G4 (c291_X9_readPerson l D T _ a0 a1 a2 a3 a4 a5 a6 a7 a8 a9 a10 x0 x1 x2 x3 x4 x5 x6 x7 x8 a11 x9 x10 x11 x12 x13 (some qq1) y0 r0 x14 x15 x16 h0 f0 f1 f2 f3 f4 f5 h1 f6 f7 x0_a x0_b x1_a x1_b x2_a x2_b x3_a x3_b x4_a x4_b x5_a x5_b x6_a x6_b x7_a x7_b x8_a x8_b x9_a x9_b x10_a x10_b x11_a x11_b x12_a x12_b x13_a x13_b o0_h x14_a x14_b x15_a x15_b x16_a x16_b f0_h f1_h f2_h f3_h f4_h f5_h f6_h f7_h) 0 clX9 rfl rfl (by decide) rfl hl.1 rfl (Nat.le_of_ble_eq_true rfl) dX9_readLine_14 (by decide) (by decide) (by decide) (by decide)) w [0, 1, 2, 3, 4, 5, 6, 7, 8, 9, 10, 11] [] rfl rfl (by decide) (by decide) rfl rfl (fun v u H locs hp w => ?_)
      obtain ⟨z103, z104, z105, z106, z107, fo108, fy109, fr110, z111, z112, z113, fh114, ff115, ff116, ff117⟩ := u
      have hv : iI z103 = v := hp.1
      subst hv
      have z103_a : 0 ≤ z103 := hp.2.1
      have z103_b : z103 ≤ 1 := hp.2.2.1
      have z104_a : 0 ≤ z104 := hp.2.2.2.1
      have z104_b : z104 ≤ 9 := hp.2.2.2.2.1
      have z105_a : 0 ≤ z105 := hp.2.2.2.2.2.1
      have z105_b : z105 ≤ 940 := hp.2.2.2.2.2.2.1
      have z106_a : 0 ≤ z106 := hp.2.2.2.2.2.2.2.1
      have z106_b : z106 ≤ 940 := hp.2.2.2.2.2.2.2.2.1
      have z107_a : 0 ≤ z107 := hp.2.2.2.2.2.2.2.2.2.1
      have z107_b : z107 ≤ 5 := hp.2.2.2.2.2.2.2.2.2.2.1
      have fo108_h : wok T fo108 := hp.2.2.2.2.2.2.2.2.2.2.2.1
      have z111_a : (-2147483648) ≤ z111 := hp.2.2.2.2.2.2.2.2.2.2.2.2.1
      have z111_b : z111 ≤ 2147483647 := hp.2.2.2.2.2.2.2.2.2.2.2.2.2.1
      have z112_a : (-2147483648) ≤ z112 := hp.2.2.2.2.2.2.2.2.2.2.2.2.2.2.1
      have z112_b : z112 ≤ 2147483647 := hp.2.2.2.2.2.2.2.2.2.2.2.2.2.2.2.1
      have z113_a : 0 ≤ z113 := hp.2.2.2.2.2.2.2.2.2.2.2.2.2.2.2.2.1
      have z113_b : z113 ≤ 940 := hp.2.2.2.2.2.2.2.2.2.2.2.2.2.2.2.2.2.1
      have ff115_h : rng (-2147483648) 2147483647 ff115 := hp.2.2.2.2.2.2.2.2.2.2.2.2.2.2.2.2.2.2.1
      have ff116_h : rng (-2147483648) 2147483647 ff116 := hp.2.2.2.2.2.2.2.2.2.2.2.2.2.2.2.2.2.2.2.1
      have ff117_h : rng (-2147483648) 2147483647 ff117 := hp.2.2.2.2.2.2.2.2.2.2.2.2.2.2.2.2.2.2.2.2.1
      have pq118 : ∀ (x : Tk × Int × Int) (rd : Int → Int) (h : Nat → Int64) (o : Int → Int), gC T x x13 x12 x11 y0 r0 x14 (some qq1) → XW rd h o h0 f0 f1 f2 f3 f4 f5 h1 f6 x0 x1 x3 x4 x5 x6 x7 x8 → XP (sPerson f7 x9 x10 x rd h o) z103 z112 z113 (fun y => gC T y z107 z106 z105 fy109 fr110 z111 fo108) (fun rd h o => XW rd h o fh114 ff115 ff116 ff117 f3 f4 f5 h1 f6 z104 x1 x3 x4 x5 x6 x7 x8) := hp.2.2.2.2.2.2.2.2.2.2.2.2.2.2.2.2.2.2.2.2.2.1
      have pq119 : kpB z103 x15 z112 := hp.2.2.2.2.2.2.2.2.2.2.2.2.2.2.2.2.2.2.2.2.2.2
      have w : WD D A s.heap [(a0, .inr (9, [.ref a2, .ref a3, .ref a4, .ref a5, .ref a6, .ref a7, .ref a8, .ref a9, .ref a10, .int (iI z104), .int (iI x1), .int (iI x2), .int (iI x3), .int (iI x4), .int (iI x5), .int (iI x6), .int (iI x7), .int (iI x8)])), (a1, .inr (8, [.ref a11, .int (iI x9), .int (iI x10), .int (iI z105), .int (iI z106), .int (iI z107), (va_rf fo108), .long fy109, .int fr110, .int (iI z111), .int (iI z112), .int (iI z113)])), (a2, .inl (T 1, 9, .inr (.inl fh114))), (a3, .inl (T 0, 9, .inl (cI ff115))), (a4, .inl (T 0, 9, .inl (cI ff116))), (a5, .inl (T 0, 9, .inl (cI ff117))), (a6, .inl (T 0, 9, .inl (cI f3))), (a7, .inl (T 0, 9, .inl (cI f4))), (a8, .inl (T 0, 9, .inl (cI f5))), (a9, .inl (T 1, 3, .inr (.inl h1))), (a10, .inl (T 0, 3, .inl (cI f6))), (a11, .inl (T 0, 940, .inl (cI f7)))] H locs := w
      exact ret _ (z103, z104, x1, x3, x4, x5, x6, x7, x8, z105, z106, z107, fo108, fy109, fr110, z111, z112, z113, fh114, ff115, ff116, ff117, f3, f4, f5, h1, f6) _ _ _ _ _ [0, 1, 2, 3, 4, 5, 6, 7, 8, 9, 10, 11] dX9_readLine_17 (nb_n (by omega) (by omega)) ⟨rfl, z103_a, z103_b, z104_a, z104_b, x1_a, x1_b, x3_a, x3_b, x4_a, x4_b, x5_a, x5_b, x6_a, x6_b, x7_a, x7_b, x8_a, x8_b, z105_a, z105_b, z106_a, z106_b, z107_a, z107_b, fo108_h, z111_a, z111_b, z112_a, z112_b, z113_a, z113_b, ff115_h, ff116_h, ff117_h, f3_h, f4_h, f5_h, f6_h, (show ∀ (x : Tk × Int × Int) (rd : Int → Int) (h : Nat → Int64) (o : Int → Int), gC T x x13 x12 x11 y0 r0 x14 (some qq1) → XW rd h o h0 f0 f1 f2 f3 f4 f5 h1 f6 x0 x1 x3 x4 x5 x6 x7 x8 → XP (sLine f7 x9 x10 x rd h o) z103 z112 z113 (fun y => gC T y z107 z106 z105 fy109 fr110 z111 fo108) (fun rd h o => XW rd h o fh114 ff115 ff116 ff117 f3 f4 f5 h1 f6 z104 x1 x3 x4 x5 x6 x7 x8) from (by intro x rd h o hx hw; rw [sLine, if_pos (cw_1 M.2.2.2.2.2.2.2.2.2 hx (j := 0) (by decide) c_7)]; exact pq118 x rd h o hx hw)), (show kpB z103 x15 z112 from pq119)⟩ w (by decide) rfl
set_option maxRecDepth 100000 in
set_option maxHeartbeats 4000000 in
theorem c293_X9_read (l : Launch) (D : va_G) (T : Nat → ClassId) (sz : Nat) (a0 : Nat) (a1 : Nat) (a2 : Nat) (a3 : Nat) (a4 : Nat) (a5 : Nat) (a6 : Nat) (a7 : Nat) (a8 : Nat) (a9 : Nat) (a10 : Nat) (x0 : Int) (x1 : Int) (x2 : Int) (x3 : Int) (x4 : Int) (x5 : Int) (x6 : Int) (x7 : Int) (x8 : Int) (a11 : Nat) (x9 : Int) (x10 : Int) (x11 : Int) (x12 : Int) (x13 : Int) (o0 : Option Nat) (y0 : Int64) (r0 : Int32) (x14 : Int) (x15 : Int) (x16 : Int) (h0 : Nat → Int64) (f0 : Int → Int) (f1 : Int → Int) (f2 : Int → Int) (f3 : Int → Int) (f4 : Int → Int) (f5 : Int → Int) (h1 : Nat → Int64) (f6 : Int → Int) (f7 : Int → Int) (x0_a : 0 ≤ x0) (x0_b : x0 ≤ 9) (x1_a : 0 ≤ x1) (x1_b : x1 ≤ 3) (x2_a : 0 ≤ x2) (x2_b : x2 ≤ 900) (x3_a : (-2147483648) ≤ x3) (x3_b : x3 ≤ 2147483647) (x4_a : (-2147483648) ≤ x4) (x4_b : x4 ≤ 2147483647) (x5_a : (-2147483648) ≤ x5) (x5_b : x5 ≤ 2147483647) (x6_a : 0 ≤ x6) (x6_b : x6 ≤ 1) (x7_a : 0 ≤ x7) (x7_b : x7 ≤ 1) (x8_a : 0 ≤ x8) (x8_b : x8 ≤ 1) (x9_a : 0 ≤ x9) (x9_b : x9 ≤ 940) (x10_a : 0 ≤ x10) (x10_b : x10 ≤ 940) (x11_a : 0 ≤ x11) (x11_b : x11 ≤ 940) (x12_a : 0 ≤ x12) (x12_b : x12 ≤ 940) (x13_a : 0 ≤ x13) (x13_b : x13 ≤ 5) (o0_h : wok T o0) (x14_a : (-2147483648) ≤ x14) (x14_b : x14 ≤ 2147483647) (x15_a : (-2147483648) ≤ x15) (x15_b : x15 ≤ 2147483647) (x16_a : 0 ≤ x16) (x16_b : x16 ≤ 940) (f0_h : rng (-2147483648) 2147483647 f0) (f1_h : rng (-2147483648) 2147483647 f1) (f2_h : rng (-2147483648) 2147483647 f2) (f3_h : rng 0 511 f3) (f4_h : rng (-1) 8 f4) (f5_h : rng (-1) 8 f5) (f6_h : rng (-2147483648) 2147483647 f6) (f7_h : rng 0 255 f7) : Met l yX9_read (Cond.code yX9_read cX9_read 2 (some .boolean) :: GW) (Rm 8 0 0) (cPre [.ref a0, .ref a1] D T [(a0, .inr (9, [.ref a2, .ref a3, .ref a4, .ref a5, .ref a6, .ref a7, .ref a8, .ref a9, .ref a10, .int (iI x0), .int (iI x1), .int (iI x2), .int (iI x3), .int (iI x4), .int (iI x5), .int (iI x6), .int (iI x7), .int (iI x8)])), (a1, .inr (8, [.ref a11, .int (iI x9), .int (iI x10), .int (iI x11), .int (iI x12), .int (iI x13), (va_rf o0), .long y0, .int r0, .int (iI x14), .int (iI x15), .int (iI x16)])), (a2, .inl (T 1, 9, .inr (.inl h0))), (a3, .inl (T 0, 9, .inl (cI f0))), (a4, .inl (T 0, 9, .inl (cI f1))), (a5, .inl (T 0, 9, .inl (cI f2))), (a6, .inl (T 0, 9, .inl (cI f3))), (a7, .inl (T 0, 9, .inl (cI f4))), (a8, .inl (T 0, 9, .inl (cI f5))), (a9, .inl (T 1, 3, .inr (.inl h1))), (a10, .inl (T 0, 3, .inl (cI f6))), (a11, .inl (T 0, 940, .inl (cI f7)))] sz) (qI D [(a0, .inr (9, [.ref a2, .ref a3, .ref a4, .ref a5, .ref a6, .ref a7, .ref a8, .ref a9, .ref a10, .int (iI x0), .int (iI x1), .int (iI x2), .int (iI x3), .int (iI x4), .int (iI x5), .int (iI x6), .int (iI x7), .int (iI x8)])), (a1, .inr (8, [.ref a11, .int (iI x9), .int (iI x10), .int (iI x11), .int (iI x12), .int (iI x13), (va_rf o0), .long y0, .int r0, .int (iI x14), .int (iI x15), .int (iI x16)])), (a2, .inl (T 1, 9, .inr (.inl h0))), (a3, .inl (T 0, 9, .inl (cI f0))), (a4, .inl (T 0, 9, .inl (cI f1))), (a5, .inl (T 0, 9, .inl (cI f2))), (a6, .inl (T 0, 9, .inl (cI f3))), (a7, .inl (T 0, 9, .inl (cI f4))), (a8, .inl (T 0, 9, .inl (cI f5))), (a9, .inl (T 1, 3, .inr (.inl h1))), (a10, .inl (T 0, 3, .inl (cI f6))), (a11, .inl (T 0, 940, .inl (cI f7)))] sz (fun (v : Int32) (u : Int × Int × Int × Int × Int × Int × Int × Int × Int × Int × Int × Int × Int × Int × Option Nat × Int64 × Int32 × Int × Int × Int × (Nat → Int64) × (Int → Int) × (Int → Int) × (Int → Int) × (Int → Int) × (Int → Int) × (Int → Int) × (Nat → Int64) × (Int → Int)) => iI u.1 = v ∧ 0 ≤ u.1 ∧ u.1 ≤ 1 ∧ 0 ≤ u.2.1 ∧ u.2.1 ≤ 9 ∧ 0 ≤ u.2.2.1 ∧ u.2.2.1 ≤ 3 ∧ 0 ≤ u.2.2.2.1 ∧ u.2.2.2.1 ≤ 900 ∧ (-2147483648) ≤ u.2.2.2.2.1 ∧ u.2.2.2.2.1 ≤ 2147483647 ∧ (-2147483648) ≤ u.2.2.2.2.2.1 ∧ u.2.2.2.2.2.1 ≤ 2147483647 ∧ (-2147483648) ≤ u.2.2.2.2.2.2.1 ∧ u.2.2.2.2.2.2.1 ≤ 2147483647 ∧ 0 ≤ u.2.2.2.2.2.2.2.1 ∧ u.2.2.2.2.2.2.2.1 ≤ 1 ∧ 0 ≤ u.2.2.2.2.2.2.2.2.1 ∧ u.2.2.2.2.2.2.2.2.1 ≤ 1 ∧ 0 ≤ u.2.2.2.2.2.2.2.2.2.1 ∧ u.2.2.2.2.2.2.2.2.2.1 ≤ 1 ∧ 0 ≤ u.2.2.2.2.2.2.2.2.2.2.1 ∧ u.2.2.2.2.2.2.2.2.2.2.1 ≤ 940 ∧ 0 ≤ u.2.2.2.2.2.2.2.2.2.2.2.1 ∧ u.2.2.2.2.2.2.2.2.2.2.2.1 ≤ 940 ∧ 0 ≤ u.2.2.2.2.2.2.2.2.2.2.2.2.1 ∧ u.2.2.2.2.2.2.2.2.2.2.2.2.1 ≤ 940 ∧ 0 ≤ u.2.2.2.2.2.2.2.2.2.2.2.2.2.1 ∧ u.2.2.2.2.2.2.2.2.2.2.2.2.2.1 ≤ 5 ∧ wok T u.2.2.2.2.2.2.2.2.2.2.2.2.2.2.1 ∧ (-2147483648) ≤ u.2.2.2.2.2.2.2.2.2.2.2.2.2.2.2.2.2.1 ∧ u.2.2.2.2.2.2.2.2.2.2.2.2.2.2.2.2.2.1 ≤ 2147483647 ∧ (-2147483648) ≤ u.2.2.2.2.2.2.2.2.2.2.2.2.2.2.2.2.2.2.1 ∧ u.2.2.2.2.2.2.2.2.2.2.2.2.2.2.2.2.2.2.1 ≤ 2147483647 ∧ 0 ≤ u.2.2.2.2.2.2.2.2.2.2.2.2.2.2.2.2.2.2.2.1 ∧ u.2.2.2.2.2.2.2.2.2.2.2.2.2.2.2.2.2.2.2.1 ≤ 940 ∧ rng (-2147483648) 2147483647 u.2.2.2.2.2.2.2.2.2.2.2.2.2.2.2.2.2.2.2.2.2.1 ∧ rng (-2147483648) 2147483647 u.2.2.2.2.2.2.2.2.2.2.2.2.2.2.2.2.2.2.2.2.2.2.1 ∧ rng (-2147483648) 2147483647 u.2.2.2.2.2.2.2.2.2.2.2.2.2.2.2.2.2.2.2.2.2.2.2.1 ∧ rng 0 511 u.2.2.2.2.2.2.2.2.2.2.2.2.2.2.2.2.2.2.2.2.2.2.2.2.1 ∧ rng (-1) 8 u.2.2.2.2.2.2.2.2.2.2.2.2.2.2.2.2.2.2.2.2.2.2.2.2.2.1 ∧ rng (-1) 8 u.2.2.2.2.2.2.2.2.2.2.2.2.2.2.2.2.2.2.2.2.2.2.2.2.2.2.1 ∧ rng (-2147483648) 2147483647 u.2.2.2.2.2.2.2.2.2.2.2.2.2.2.2.2.2.2.2.2.2.2.2.2.2.2.2.2 ∧ (∀ (rd : Int → Int) (h : Nat → Int64) (o : Int → Int), rd0P rd → o0P o → CXr (ctN f7 x9 900 1000 ⟨tkAt f7 x9 900 0, rd, h, o⟩ 0) u.1 u.2.2.2.2.2.2.2.2.2.2.2.2.2.2.2.2.2.2.1 u.2.2.2.2.2.2.2.2.2.2.2.2.2.2.2.2.2.2.2.1 u.2.2.2.1 (fun rd h o => XW rd h o u.2.2.2.2.2.2.2.2.2.2.2.2.2.2.2.2.2.2.2.2.1 u.2.2.2.2.2.2.2.2.2.2.2.2.2.2.2.2.2.2.2.2.2.1 u.2.2.2.2.2.2.2.2.2.2.2.2.2.2.2.2.2.2.2.2.2.2.1 u.2.2.2.2.2.2.2.2.2.2.2.2.2.2.2.2.2.2.2.2.2.2.2.1 u.2.2.2.2.2.2.2.2.2.2.2.2.2.2.2.2.2.2.2.2.2.2.2.2.1 u.2.2.2.2.2.2.2.2.2.2.2.2.2.2.2.2.2.2.2.2.2.2.2.2.2.1 u.2.2.2.2.2.2.2.2.2.2.2.2.2.2.2.2.2.2.2.2.2.2.2.2.2.2.1 u.2.2.2.2.2.2.2.2.2.2.2.2.2.2.2.2.2.2.2.2.2.2.2.2.2.2.2.1 u.2.2.2.2.2.2.2.2.2.2.2.2.2.2.2.2.2.2.2.2.2.2.2.2.2.2.2.2 u.2.1 u.2.2.1 u.2.2.2.2.1 u.2.2.2.2.2.1 u.2.2.2.2.2.2.1 u.2.2.2.2.2.2.2.1 u.2.2.2.2.2.2.2.2.1 u.2.2.2.2.2.2.2.2.2.1)) ∧ (kpB u.1 0 u.2.2.2.2.2.2.2.2.2.2.2.2.2.2.2.2.2.2.1)) (fun u => [(a0, .inr (9, [.ref a2, .ref a3, .ref a4, .ref a5, .ref a6, .ref a7, .ref a8, .ref a9, .ref a10, .int (iI u.2.1), .int (iI u.2.2.1), .int (iI u.2.2.2.1), .int (iI u.2.2.2.2.1), .int (iI u.2.2.2.2.2.1), .int (iI u.2.2.2.2.2.2.1), .int (iI u.2.2.2.2.2.2.2.1), .int (iI u.2.2.2.2.2.2.2.2.1), .int (iI u.2.2.2.2.2.2.2.2.2.1)])), (a1, .inr (8, [.ref a11, .int (iI x9), .int (iI u.2.2.2.2.2.2.2.2.2.2.1), .int (iI u.2.2.2.2.2.2.2.2.2.2.2.1), .int (iI u.2.2.2.2.2.2.2.2.2.2.2.2.1), .int (iI u.2.2.2.2.2.2.2.2.2.2.2.2.2.1), (va_rf u.2.2.2.2.2.2.2.2.2.2.2.2.2.2.1), .long u.2.2.2.2.2.2.2.2.2.2.2.2.2.2.2.1, .int u.2.2.2.2.2.2.2.2.2.2.2.2.2.2.2.2.1, .int (iI u.2.2.2.2.2.2.2.2.2.2.2.2.2.2.2.2.2.1), .int (iI u.2.2.2.2.2.2.2.2.2.2.2.2.2.2.2.2.2.2.1), .int (iI u.2.2.2.2.2.2.2.2.2.2.2.2.2.2.2.2.2.2.2.1)])), (a2, .inl (T 1, 9, .inr (.inl u.2.2.2.2.2.2.2.2.2.2.2.2.2.2.2.2.2.2.2.2.1))), (a3, .inl (T 0, 9, .inl (cI u.2.2.2.2.2.2.2.2.2.2.2.2.2.2.2.2.2.2.2.2.2.1))), (a4, .inl (T 0, 9, .inl (cI u.2.2.2.2.2.2.2.2.2.2.2.2.2.2.2.2.2.2.2.2.2.2.1))), (a5, .inl (T 0, 9, .inl (cI u.2.2.2.2.2.2.2.2.2.2.2.2.2.2.2.2.2.2.2.2.2.2.2.1))), (a6, .inl (T 0, 9, .inl (cI u.2.2.2.2.2.2.2.2.2.2.2.2.2.2.2.2.2.2.2.2.2.2.2.2.1))), (a7, .inl (T 0, 9, .inl (cI u.2.2.2.2.2.2.2.2.2.2.2.2.2.2.2.2.2.2.2.2.2.2.2.2.2.1))), (a8, .inl (T 0, 9, .inl (cI u.2.2.2.2.2.2.2.2.2.2.2.2.2.2.2.2.2.2.2.2.2.2.2.2.2.2.1))), (a9, .inl (T 1, 3, .inr (.inl u.2.2.2.2.2.2.2.2.2.2.2.2.2.2.2.2.2.2.2.2.2.2.2.2.2.2.2.1))), (a10, .inl (T 0, 3, .inl (cI u.2.2.2.2.2.2.2.2.2.2.2.2.2.2.2.2.2.2.2.2.2.2.2.2.2.2.2.2))), (a11, .inl (T 0, 940, .inl (cI f7)))])) 0 0 (va_A [(a0, .inr (9, [.ref a2, .ref a3, .ref a4, .ref a5, .ref a6, .ref a7, .ref a8, .ref a9, .ref a10, .int (iI x0), .int (iI x1), .int (iI x2), .int (iI x3), .int (iI x4), .int (iI x5), .int (iI x6), .int (iI x7), .int (iI x8)])), (a1, .inr (8, [.ref a11, .int (iI x9), .int (iI x10), .int (iI x11), .int (iI x12), .int (iI x13), (va_rf o0), .long y0, .int r0, .int (iI x14), .int (iI x15), .int (iI x16)])), (a2, .inl (T 1, 9, .inr (.inl h0))), (a3, .inl (T 0, 9, .inl (cI f0))), (a4, .inl (T 0, 9, .inl (cI f1))), (a5, .inl (T 0, 9, .inl (cI f2))), (a6, .inl (T 0, 9, .inl (cI f3))), (a7, .inl (T 0, 9, .inl (cI f4))), (a8, .inl (T 0, 9, .inl (cI f5))), (a9, .inl (T 1, 3, .inr (.inl h1))), (a10, .inl (T 0, 3, .inl (cI f6))), (a11, .inl (T 0, 940, .inl (cI f7)))] sz) := by
  refine e_Z (by decide) (Nat.le_of_ble_eq_true rfl) ?_
  intro p e s m args below meth c A Q ls M hin w ret hl
  have hx := M.1.1
  have hb := M.1.2.1
  have hl : lv_has ls 2 [(0, .ref a0), (1, .ref a1)] := hl
  refine lv_aload_n hx hb dX9_read_0 rfl (lv_at hl 0 rfl) ?_
  refine k_V (ce := 0) (sl := 0) (rest := []) (wr := [(a1, .inr (8, [.ref a11, .int (iI x9), .int (iI x10), .int (iI x11), .int (iI x12), .int (iI x13), (va_rf o0), .long y0, .int r0, .int (iI x14), .int (iI x15), .int (iI x16)])), (a11, .inl (T 0, 940, .inl (cI f7)))]) (r_V (f := 1) [0, 2, 3, 4, 5, 6, 7, 8, 9, 10] M w V_HookedCity_Town_81 G579 G1 (c276_X9_clear l D T _ a0 a2 a3 a4 a5 a6 a7 a8 a9 a10 x0 x1 x2 x3 x4 x5 x6 x7 x8 h0 f0 f1 f2 f3 f4 f5 h1 f6 x0_a x0_b x1_a x1_b x2_a x2_b x3_a x3_b x4_a x4_b x5_a x5_b x6_a x6_b x7_a x7_b x8_a x8_b f0_h f1_h f2_h f3_h f4_h f5_h f6_h) 0 clX9 rfl rfl (by decide) rfl hl.1 rfl (Nat.le_of_ble_eq_true rfl) dX9_read_1 (by decide) (by decide) (by decide) (by decide)) w [0, 2, 3, 4, 5, 6, 7, 8, 9, 10] [1, 11] rfl rfl (by decide) (by decide) rfl rfl (fun u H locs hp w => ?_)
  obtain ⟨z1, z2, z3, z4, z5, z6, z7, z8, ff9, ff10, ff11⟩ := u
  have z1_a : 0 ≤ z1 := hp.1
  have z1_b : z1 ≤ 9 := hp.2.1
  have z2_a : 0 ≤ z2 := hp.2.2.1
  have z2_b : z2 ≤ 3 := hp.2.2.2.1
  have z3_a : (-2147483648) ≤ z3 := hp.2.2.2.2.1
  have z3_b : z3 ≤ 2147483647 := hp.2.2.2.2.2.1
  have z4_a : (-2147483648) ≤ z4 := hp.2.2.2.2.2.2.1
  have z4_b : z4 ≤ 2147483647 := hp.2.2.2.2.2.2.2.1
  have z5_a : (-2147483648) ≤ z5 := hp.2.2.2.2.2.2.2.2.1
  have z5_b : z5 ≤ 2147483647 := hp.2.2.2.2.2.2.2.2.2.1
  have z6_a : 0 ≤ z6 := hp.2.2.2.2.2.2.2.2.2.2.1
  have z6_b : z6 ≤ 1 := hp.2.2.2.2.2.2.2.2.2.2.2.1
  have z7_a : 0 ≤ z7 := hp.2.2.2.2.2.2.2.2.2.2.2.2.1
  have z7_b : z7 ≤ 1 := hp.2.2.2.2.2.2.2.2.2.2.2.2.2.1
  have z8_a : 0 ≤ z8 := hp.2.2.2.2.2.2.2.2.2.2.2.2.2.2.1
  have z8_b : z8 ≤ 1 := hp.2.2.2.2.2.2.2.2.2.2.2.2.2.2.2.1
  have ff9_h : rng 0 511 ff9 := hp.2.2.2.2.2.2.2.2.2.2.2.2.2.2.2.2.1
  have ff10_h : rng (-1) 8 ff10 := hp.2.2.2.2.2.2.2.2.2.2.2.2.2.2.2.2.2.1
  have ff11_h : rng (-1) 8 ff11 := hp.2.2.2.2.2.2.2.2.2.2.2.2.2.2.2.2.2.2.1
  have pq12 : cl0 ff9 ff10 ff11 z1 z2 z3 z4 z5 z6 z7 z8 := hp.2.2.2.2.2.2.2.2.2.2.2.2.2.2.2.2.2.2.2
  have w : WD D A s.heap [(a1, .inr (8, [.ref a11, .int (iI x9), .int (iI x10), .int (iI x11), .int (iI x12), .int (iI x13), (va_rf o0), .long y0, .int r0, .int (iI x14), .int (iI x15), .int (iI x16)])), (a11, .inl (T 0, 940, .inl (cI f7))), (a0, .inr (9, [.ref a2, .ref a3, .ref a4, .ref a5, .ref a6, .ref a7, .ref a8, .ref a9, .ref a10, .int (iI z1), .int (iI z2), .int (iI x2), .int (iI z3), .int (iI z4), .int (iI z5), .int (iI z6), .int (iI z7), .int (iI z8)])), (a2, .inl (T 1, 9, .inr (.inl h0))), (a3, .inl (T 0, 9, .inl (cI f0))), (a4, .inl (T 0, 9, .inl (cI f1))), (a5, .inl (T 0, 9, .inl (cI f2))), (a6, .inl (T 0, 9, .inl (cI ff9))), (a7, .inl (T 0, 9, .inl (cI ff10))), (a8, .inl (T 0, 9, .inl (cI ff11))), (a9, .inl (T 1, 3, .inr (.inl h1))), (a10, .inl (T 0, 3, .inl (cI f6)))] H locs := w
  refine lv_aload_n hx hb dX9_read_4 rfl (lv_at hl 1 rfl) ?_
  refine lv_sipush (v := iI 900) hx hb dX9_read_5 (by decide +kernel) ?_
  refine k_V (ce := 0) (sl := 0) (rest := []) (wr := [(a0, .inr (9, [.ref a2, .ref a3, .ref a4, .ref a5, .ref a6, .ref a7, .ref a8, .ref a9, .ref a10, .int (iI z1), .int (iI z2), .int (iI x2), .int (iI z3), .int (iI z4), .int (iI z5), .int (iI z6), .int (iI z7), .int (iI z8)])), (a2, .inl (T 1, 9, .inr (.inl h0))), (a3, .inl (T 0, 9, .inl (cI f0))), (a4, .inl (T 0, 9, .inl (cI f1))), (a5, .inl (T 0, 9, .inl (cI f2))), (a6, .inl (T 0, 9, .inl (cI ff9))), (a7, .inl (T 0, 9, .inl (cI ff10))), (a8, .inl (T 0, 9, .inl (cI ff11))), (a9, .inl (T 1, 3, .inr (.inl h1))), (a10, .inl (T 0, 3, .inl (cI f6)))]) (r_V (f := 5) [0, 1] M w V_HookedCity_Town_84 G583 G584 (c267_X8_open l D T _ a1 900 a11 x9 x10 x11 x12 x13 o0 y0 r0 x14 x15 x16 f7 (by decide) (by decide) x9_a x9_b x10_a x10_b x11_a x11_b x12_a x12_b x13_a x13_b o0_h x14_a x14_b x15_a x15_b x16_a x16_b f7_h) 0 clX8 rfl rfl (by decide) rfl hl.1 rfl (Nat.le_of_ble_eq_true rfl) dX9_read_8 (by decide) (by decide) (by decide) (by decide)) w [0, 1] [2, 3, 4, 5, 6, 7, 8, 9, 10, 11] rfl rfl (by decide) (by decide) rfl rfl (fun u H locs hp w => ?_)
  obtain ⟨z13, z14, z15, z16, fo17, fy18, fr19, z20, z21, z22⟩ := u
  have z13_a : 0 ≤ z13 := hp.1
  have z13_b : z13 ≤ 940 := hp.2.1
  have z14_a : 0 ≤ z14 := hp.2.2.1
  have z14_b : z14 ≤ 940 := hp.2.2.2.1
  have z15_a : 0 ≤ z15 := hp.2.2.2.2.1
  have z15_b : z15 ≤ 940 := hp.2.2.2.2.2.1
  have z16_a : 0 ≤ z16 := hp.2.2.2.2.2.2.1
  have z16_b : z16 ≤ 5 := hp.2.2.2.2.2.2.2.1
  have fo17_h : wok T fo17 := hp.2.2.2.2.2.2.2.2.1
  have z20_a : (-2147483648) ≤ z20 := hp.2.2.2.2.2.2.2.2.2.1
  have z20_b : z20 ≤ 2147483647 := hp.2.2.2.2.2.2.2.2.2.2.1
  have z21_a : (-2147483648) ≤ z21 := hp.2.2.2.2.2.2.2.2.2.2.2.1
  have z21_b : z21 ≤ 2147483647 := hp.2.2.2.2.2.2.2.2.2.2.2.2.1
  have z22_a : 0 ≤ z22 := hp.2.2.2.2.2.2.2.2.2.2.2.2.2.1
  have z22_b : z22 ≤ 940 := hp.2.2.2.2.2.2.2.2.2.2.2.2.2.2.1
  have ee23 : 0 ≤ (z13 - 900) := hp.2.2.2.2.2.2.2.2.2.2.2.2.2.2.2.1
  have ee24 : 0 ≤ (900 - z13) := hp.2.2.2.2.2.2.2.2.2.2.2.2.2.2.2.2.1
  have ee25 : 0 ≤ z21 := hp.2.2.2.2.2.2.2.2.2.2.2.2.2.2.2.2.2.1
  have ee26 : 0 ≤ (0 - z21) := hp.2.2.2.2.2.2.2.2.2.2.2.2.2.2.2.2.2.2.1
  have pq27 : gC T (tkAt f7 x9 z13 0) z16 z15 z14 fy18 fr19 z20 fo17 := hp.2.2.2.2.2.2.2.2.2.2.2.2.2.2.2.2.2.2.2
  have w : WD D A s.heap [(a0, .inr (9, [.ref a2, .ref a3, .ref a4, .ref a5, .ref a6, .ref a7, .ref a8, .ref a9, .ref a10, .int (iI z1), .int (iI z2), .int (iI x2), .int (iI z3), .int (iI z4), .int (iI z5), .int (iI z6), .int (iI z7), .int (iI z8)])), (a2, .inl (T 1, 9, .inr (.inl h0))), (a3, .inl (T 0, 9, .inl (cI f0))), (a4, .inl (T 0, 9, .inl (cI f1))), (a5, .inl (T 0, 9, .inl (cI f2))), (a6, .inl (T 0, 9, .inl (cI ff9))), (a7, .inl (T 0, 9, .inl (cI ff10))), (a8, .inl (T 0, 9, .inl (cI ff11))), (a9, .inl (T 1, 3, .inr (.inl h1))), (a10, .inl (T 0, 3, .inl (cI f6))), (a1, .inr (8, [.ref a11, .int (iI x9), .int (iI z13), .int (iI z14), .int (iI z15), .int (iI z16), (va_rf fo17), .long fy18, .int fr19, .int (iI z20), .int (iI z21), .int (iI z22)])), (a11, .inl (T 0, 940, .inl (cI f7)))] H locs := w
  refine lv_aload_n hx hb dX9_read_11 rfl (lv_at hl 0 rfl) ?_
  refine lv_iconst (v := iI 0) hx hb dX9_read_12 (by decide +kernel) ?_
  refine r_put (ws' := [(a0, .inr (9, [.ref a2, .ref a3, .ref a4, .ref a5, .ref a6, .ref a7, .ref a8, .ref a9, .ref a10, .int (iI z1), .int (iI z2), .int (iI 0), .int (iI z3), .int (iI z4), .int (iI z5), .int (iI z6), .int (iI z7), .int (iI z8)])), (a2, .inl (T 1, 9, .inr (.inl h0))), (a3, .inl (T 0, 9, .inl (cI f0))), (a4, .inl (T 0, 9, .inl (cI f1))), (a5, .inl (T 0, 9, .inl (cI f2))), (a6, .inl (T 0, 9, .inl (cI ff9))), (a7, .inl (T 0, 9, .inl (cI ff10))), (a8, .inl (T 0, 9, .inl (cI ff11))), (a9, .inl (T 1, 3, .inr (.inl h1))), (a10, .inl (T 0, 3, .inl (cI f6))), (a1, .inr (8, [.ref a11, .int (iI x9), .int (iI z13), .int (iI z14), .int (iI z15), .int (iI z16), (va_rf fo17), .long fy18, .int fr19, .int (iI z20), .int (iI z21), .int (iI z22)])), (a11, .inl (T 0, 940, .inl (cI f7)))]) M w 0 11 clX9 rfl (by decide) G396 rfl rfl rfl rfl (Nat.le_of_ble_eq_true rfl) rfl dX9_read_13 (fun H locs w => ?_)
  have loop1 : ∀ (k1 : Nat) (z28 : Int) (z29 : Int) (z30 : Int) (z31 : Int) (z32 : Int) (z33 : Int) (z34 : Int) (z35 : Int) (z36 : Int) (z37 : Int) (z38 : Int) (z39 : Int) (z40 : Int) (z41 : Int) (fo42 : Option Nat) (fy43 : Int64) (fr44 : Int32) (z45 : Int) (ff46 : Int → Int) (fh47 : Nat → Int64) (ff48 : Int → Int) (ff49 : Int → Int) (ff50 : Int → Int) (ff51 : Int → Int) (ff52 : Int → Int) (ff53 : Int → Int) (fh54 : Nat → Int64) (H : Heap) (locs : List Loc) (ls : Array Slot), 0 ≤ z28 → z28 ≤ 3 → 0 ≤ z29 → z29 ≤ 900 → (-2147483648) ≤ z30 → z30 ≤ 2147483647 → (-2147483648) ≤ z31 → z31 ≤ 2147483647 → (-2147483648) ≤ z32 → z32 ≤ 2147483647 → 0 ≤ z33 → z33 ≤ 1 → 0 ≤ z34 → z34 ≤ 1 → 0 ≤ z35 → z35 ≤ 1 → 0 ≤ z36 → z36 ≤ 9 → (-2147483648) ≤ z37 → z37 ≤ 2147483647 → 0 ≤ z38 → z38 ≤ 940 → 0 ≤ z39 → z39 ≤ 940 → 0 ≤ z40 → z40 ≤ 940 → 0 ≤ z41 → z41 ≤ 5 → wok T fo42 → (-2147483648) ≤ z45 → z45 ≤ 2147483647 → rng (-2147483648) 2147483647 ff46 → rng (-2147483648) 2147483647 ff48 → rng (-2147483648) 2147483647 ff49 → rng (-2147483648) 2147483647 ff50 → rng 0 511 ff51 → rng (-1) 8 ff52 → rng (-1) 8 ff53 → (∀ (rd : Int → Int) (h : Nat → Int64) (o : Int → Int), rd0P rd → o0P o → cxI f7 x9 z13 ⟨tkAt f7 x9 z13 0, rd, h, o⟩ (fun y => gC T y z41 z40 z39 fy43 fr44 z45 fo42) (fun rd h o => XW rd h o fh47 ff48 ff49 ff50 ff51 ff52 ff53 fh54 ff46 z36 z28 z30 z31 z32 z33 z34 z35) z29) → z37 = 0 → ((900 - z29) : Int).toNat < k1 → WD D A s.heap [(a0, .inr (9, [.ref a2, .ref a3, .ref a4, .ref a5, .ref a6, .ref a7, .ref a8, .ref a9, .ref a10, .int (iI z36), .int (iI z28), .int (iI z29), .int (iI z30), .int (iI z31), .int (iI z32), .int (iI z33), .int (iI z34), .int (iI z35)])), (a2, .inl (T 1, 9, .inr (.inl fh47))), (a3, .inl (T 0, 9, .inl (cI ff48))), (a4, .inl (T 0, 9, .inl (cI ff49))), (a5, .inl (T 0, 9, .inl (cI ff50))), (a6, .inl (T 0, 9, .inl (cI ff51))), (a7, .inl (T 0, 9, .inl (cI ff52))), (a8, .inl (T 0, 9, .inl (cI ff53))), (a9, .inl (T 1, 3, .inr (.inl fh54))), (a10, .inl (T 0, 3, .inl (cI ff46))), (a1, .inr (8, [.ref a11, .int (iI x9), .int (iI z13), .int (iI z39), .int (iI z40), .int (iI z41), (va_rf fo42), .long fy43, .int fr44, .int (iI z45), .int (iI z37), .int (iI z38)])), (a11, .inl (T 0, 940, .inl (cI f7)))] H locs → lv_has ls 2 [(0, .ref a0), (1, .ref a1)] → W p l e (Rm 8 0 0) s m args below meth c H locs 0 0 Q (F0 m 16 ls []) := by
    intro k1
    induction k1 with
    | zero => intro z28 z29 z30 z31 z32 z33 z34 z35 z36 z37 z38 z39 z40 z41 fo42 fy43 fr44 z45 ff46 fh47 ff48 ff49 ff50 ff51 ff52 ff53 fh54 H locs ls z28_a z28_b z29_a z29_b z30_a z30_b z31_a z31_b z32_a z32_b z33_a z33_b z34_a z34_b z35_a z35_b z36_a z36_b z37_a z37_b z38_a z38_b z39_a z39_b z40_a z40_b z41_a z41_b fo42_h z45_a z45_b ff46_h ff48_h ff49_h ff50_h ff51_h ff52_h ff53_h lq1_c lq1_z hm; exact absurd hm (Nat.not_lt_zero _)
    | succ k1 ih1 =>
      intro z28 z29 z30 z31 z32 z33 z34 z35 z36 z37 z38 z39 z40 z41 fo42 fy43 fr44 z45 ff46 fh47 ff48 ff49 ff50 ff51 ff52 ff53 fh54 H locs ls z28_a z28_b z29_a z29_b z30_a z30_b z31_a z31_b z32_a z32_b z33_a z33_b z34_a z34_b z35_a z35_b z36_a z36_b z37_a z37_b z38_a z38_b z39_a z39_b z40_a z40_b z41_a z41_b fo42_h z45_a z45_b ff46_h ff48_h ff49_h ff50_h ff51_h ff52_h ff53_h lq1_c lq1_z hm1 w hl
      refine lv_aload_n hx hb dX9_read_16 rfl (lv_at hl 0 rfl) ?_
      refine r_get (v := .int (iI z29)) M w 0 11 clX9 rfl (by decide) G396 rfl rfl dX9_read_17 ?_
      refine lv_sipush (v := iI 900) hx hb dX9_read_20 (by decide +kernel) ?_
      refine lv_icmp_ge (tgt := 65) hx hb dX9_read_23 (by decide) (fun c_55 => ?_) (fun c_55 => ?_)
      · replace c_55 := (iI_le (by decide) (by decide) (Int.le_trans (by decide) z29_a) (Int.le_trans z29_b (by decide))).mp c_55
        refine lv_iconst (v := iI 1) hx hb dX9_read_65 (by decide +kernel) ?_
        exact ret _ (1, z36, z28, z29, z30, z31, z32, z33, z34, z35, z13, z39, z40, z41, fo42, fy43, fr44, z45, z37, z38, fh47, ff48, ff49, ff50, ff51, ff52, ff53, fh54, ff46) _ _ _ _ _ [0, 10, 1, 2, 3, 4, 5, 6, 7, 8, 9, 11] dX9_read_66 (by decide +kernel) ⟨rfl, (show (0 : Int) ≤ 1 from by decide), (show (1 : Int) ≤ 1 from by decide), z36_a, z36_b, z28_a, z28_b, z29_a, z29_b, z30_a, z30_b, z31_a, z31_b, z32_a, z32_b, z33_a, z33_b, z34_a, z34_b, z35_a, z35_b, z13_a, z13_b, z39_a, z39_b, z40_a, z40_b, z41_a, z41_b, fo42_h, z45_a, z45_b, z37_a, z37_b, z38_a, z38_b, ff48_h, ff49_h, ff50_h, ff51_h, ff52_h, ff53_h, ff46_h, (show ∀ (rd : Int → Int) (h : Nat → Int64) (o : Int → Int), rd0P rd → o0P o → CXr (ctN f7 x9 900 1000 ⟨tkAt f7 x9 900 0, rd, h, o⟩ 0) 1 z37 z38 z29 (fun rd h o => XW rd h o fh47 ff48 ff49 ff50 ff51 ff52 ff53 fh54 ff46 z36 z28 z30 z31 z32 z33 z34 z35) from (by intro rd h o hr ho; have h0 := lq1_c rd h o hr ho; have hb := cx_b h0; exfalso; omega)), (show kpB 1 0 z37 from (fun hr => by omega))⟩ w (by decide) rfl
      · replace c_55 : z29 < 900 := Int.not_le.mp (fun h => c_55 ((iI_le (by decide) (by decide) (Int.le_trans (by decide) z29_a) (Int.le_trans z29_b (by decide))).mpr h))
        refine lv_aload_n hx hb dX9_read_26 rfl (lv_at hl 1 rfl) ?_
        refine k_I (ce := 0) (sl := 0) (rest := []) (wr := [(a0, .inr (9, [.ref a2, .ref a3, .ref a4, .ref a5, .ref a6, .ref a7, .ref a8, .ref a9, .ref a10, .int (iI z36), .int (iI z28), .int (iI z29), .int (iI z30), .int (iI z31), .int (iI z32), .int (iI z33), .int (iI z34), .int (iI z35)])), (a2, .inl (T 1, 9, .inr (.inl fh47))), (a3, .inl (T 0, 9, .inl (cI ff48))), (a4, .inl (T 0, 9, .inl (cI ff49))), (a5, .inl (T 0, 9, .inl (cI ff50))), (a6, .inl (T 0, 9, .inl (cI ff51))), (a7, .inl (T 0, 9, .inl (cI ff52))), (a8, .inl (T 0, 9, .inl (cI ff53))), (a9, .inl (T 1, 3, .inr (.inl fh54))), (a10, .inl (T 0, 3, .inl (cI ff46))), (a11, .inl (T 0, 940, .inl (cI f7)))]) (r_V (f := 0) [10] M w V_HookedCity_Town_90 G696 G697 (c269_X8_atEnd l D T _ a1 a11 x9 z13 z39 z40 z41 fo42 fy43 fr44 z45 z37 z38 x9_a x9_b z13_a z13_b z39_a z39_b z40_a z40_b z41_a z41_b fo42_h z45_a z45_b z37_a z37_b z38_a z38_b) 10 clX8 rfl rfl (by decide) rfl hl.1 rfl (Nat.le_of_ble_eq_true rfl) dX9_read_27 (by decide) (by decide) (by decide) (by decide)) w [10] [0, 1, 2, 3, 4, 5, 6, 7, 8, 9, 11] rfl rfl (by decide) (by decide) rfl rfl (fun v z56 H locs hp w => ?_)
        have hv : iI z56 = v := hp.1
        subst hv
        have z56_a : 0 ≤ z56 := hp.2.1
        have z56_b : z56 ≤ 1 := hp.2.2.1
        have w : WD D A s.heap [(a0, .inr (9, [.ref a2, .ref a3, .ref a4, .ref a5, .ref a6, .ref a7, .ref a8, .ref a9, .ref a10, .int (iI z36), .int (iI z28), .int (iI z29), .int (iI z30), .int (iI z31), .int (iI z32), .int (iI z33), .int (iI z34), .int (iI z35)])), (a2, .inl (T 1, 9, .inr (.inl fh47))), (a3, .inl (T 0, 9, .inl (cI ff48))), (a4, .inl (T 0, 9, .inl (cI ff49))), (a5, .inl (T 0, 9, .inl (cI ff50))), (a6, .inl (T 0, 9, .inl (cI ff51))), (a7, .inl (T 0, 9, .inl (cI ff52))), (a8, .inl (T 0, 9, .inl (cI ff53))), (a9, .inl (T 1, 3, .inr (.inl fh54))), (a10, .inl (T 0, 3, .inl (cI ff46))), (a11, .inl (T 0, 940, .inl (cI f7))), (a1, .inr (8, [.ref a11, .int (iI x9), .int (iI z13), .int (iI z39), .int (iI z40), .int (iI z41), (va_rf fo42), .long fy43, .int fr44, .int (iI z45), .int (iI z37), .int (iI z38)]))] H locs := w
        rcases hp.2.2.2 with ⟨c_57, hr⟩ | ⟨c_58, hr⟩
        · subst hr
          refine lv_if_ne (tgt := 65) hx hb dX9_read_30 (by decide) (fun c => absurd (by decide +kernel) c) (fun _ => ?_)
          refine lv_aload_n hx hb dX9_read_33 rfl (lv_at hl 0 rfl) ?_
          refine lv_aload_n hx hb dX9_read_34 rfl (lv_at hl 1 rfl) ?_
          refine k_I (ce := 0) (sl := 0) (rest := []) (wr := []) (r_V (f := 7) [0, 11, 1, 2, 3, 4, 5, 6, 7, 8, 9, 10] M w V_HookedCity_Town_94 G701 G3 (c292_X9_readLine l D T _ a0 a1 a2 a3 a4 a5 a6 a7 a8 a9 a10 z36 z28 z29 z30 z31 z32 z33 z34 z35 a11 x9 z13 z39 z40 z41 fo42 fy43 fr44 z45 z37 z38 fh47 ff48 ff49 ff50 ff51 ff52 ff53 fh54 ff46 f7 z36_a z36_b z28_a z28_b z29_a z29_b z30_a z30_b z31_a z31_b z32_a z32_b z33_a z33_b z34_a z34_b z35_a z35_b x9_a x9_b z13_a z13_b z39_a z39_b z40_a z40_b z41_a z41_b fo42_h z45_a z45_b z37_a z37_b z38_a z38_b ff48_h ff49_h ff50_h ff51_h ff52_h ff53_h ff46_h f7_h) 0 clX9 rfl rfl (by decide) rfl hl.1 rfl (Nat.le_of_ble_eq_true rfl) dX9_read_35 (by decide) (by decide) (by decide) (by decide)) w [0, 11, 1, 2, 3, 4, 5, 6, 7, 8, 9, 10] [] rfl rfl (by decide) (by decide) rfl rfl (fun v u H locs hp w => ?_)
          obtain ⟨z59, z60, z61, z62, z63, z64, z65, z66, z67, z68, z69, z70, fo71, fy72, fr73, z74, z75, z76, fh77, ff78, ff79, ff80, ff81, ff82, ff83, fh84, ff85⟩ := u
          have hv : iI z59 = v := hp.1
          subst hv
          have z59_a : 0 ≤ z59 := hp.2.1
          have z59_b : z59 ≤ 1 := hp.2.2.1
          have z60_a : 0 ≤ z60 := hp.2.2.2.1
          have z60_b : z60 ≤ 9 := hp.2.2.2.2.1
          have z61_a : 0 ≤ z61 := hp.2.2.2.2.2.1
          have z61_b : z61 ≤ 3 := hp.2.2.2.2.2.2.1
          have z62_a : (-2147483648) ≤ z62 := hp.2.2.2.2.2.2.2.1
          have z62_b : z62 ≤ 2147483647 := hp.2.2.2.2.2.2.2.2.1
          have z63_a : (-2147483648) ≤ z63 := hp.2.2.2.2.2.2.2.2.2.1
          have z63_b : z63 ≤ 2147483647 := hp.2.2.2.2.2.2.2.2.2.2.1
          have z64_a : (-2147483648) ≤ z64 := hp.2.2.2.2.2.2.2.2.2.2.2.1
          have z64_b : z64 ≤ 2147483647 := hp.2.2.2.2.2.2.2.2.2.2.2.2.1
          have z65_a : 0 ≤ z65 := hp.2.2.2.2.2.2.2.2.2.2.2.2.2.1
          have z65_b : z65 ≤ 1 := hp.2.2.2.2.2.2.2.2.2.2.2.2.2.2.1
          have z66_a : 0 ≤ z66 := hp.2.2.2.2.2.2.2.2.2.2.2.2.2.2.2.1
          have z66_b : z66 ≤ 1 := hp.2.2.2.2.2.2.2.2.2.2.2.2.2.2.2.2.1
          have z67_a : 0 ≤ z67 := hp.2.2.2.2.2.2.2.2.2.2.2.2.2.2.2.2.2.1
          have z67_b : z67 ≤ 1 := hp.2.2.2.2.2.2.2.2.2.2.2.2.2.2.2.2.2.2.1
          have z68_a : 0 ≤ z68 := hp.2.2.2.2.2.2.2.2.2.2.2.2.2.2.2.2.2.2.2.1
          have z68_b : z68 ≤ 940 := hp.2.2.2.2.2.2.2.2.2.2.2.2.2.2.2.2.2.2.2.2.1
          have z69_a : 0 ≤ z69 := hp.2.2.2.2.2.2.2.2.2.2.2.2.2.2.2.2.2.2.2.2.2.1
          have z69_b : z69 ≤ 940 := hp.2.2.2.2.2.2.2.2.2.2.2.2.2.2.2.2.2.2.2.2.2.2.1
          have z70_a : 0 ≤ z70 := hp.2.2.2.2.2.2.2.2.2.2.2.2.2.2.2.2.2.2.2.2.2.2.2.1
          have z70_b : z70 ≤ 5 := hp.2.2.2.2.2.2.2.2.2.2.2.2.2.2.2.2.2.2.2.2.2.2.2.2.1
          have fo71_h : wok T fo71 := hp.2.2.2.2.2.2.2.2.2.2.2.2.2.2.2.2.2.2.2.2.2.2.2.2.2.1
          have z74_a : (-2147483648) ≤ z74 := hp.2.2.2.2.2.2.2.2.2.2.2.2.2.2.2.2.2.2.2.2.2.2.2.2.2.2.1
          have z74_b : z74 ≤ 2147483647 := hp.2.2.2.2.2.2.2.2.2.2.2.2.2.2.2.2.2.2.2.2.2.2.2.2.2.2.2.1
          have z75_a : (-2147483648) ≤ z75 := hp.2.2.2.2.2.2.2.2.2.2.2.2.2.2.2.2.2.2.2.2.2.2.2.2.2.2.2.2.1
          have z75_b : z75 ≤ 2147483647 := hp.2.2.2.2.2.2.2.2.2.2.2.2.2.2.2.2.2.2.2.2.2.2.2.2.2.2.2.2.2.1
          have z76_a : 0 ≤ z76 := hp.2.2.2.2.2.2.2.2.2.2.2.2.2.2.2.2.2.2.2.2.2.2.2.2.2.2.2.2.2.2.1
          have z76_b : z76 ≤ 940 := hp.2.2.2.2.2.2.2.2.2.2.2.2.2.2.2.2.2.2.2.2.2.2.2.2.2.2.2.2.2.2.2.1
          have ff78_h : rng (-2147483648) 2147483647 ff78 := hp.2.2.2.2.2.2.2.2.2.2.2.2.2.2.2.2.2.2.2.2.2.2.2.2.2.2.2.2.2.2.2.2.1
          have ff79_h : rng (-2147483648) 2147483647 ff79 := hp.2.2.2.2.2.2.2.2.2.2.2.2.2.2.2.2.2.2.2.2.2.2.2.2.2.2.2.2.2.2.2.2.2.1
          have ff80_h : rng (-2147483648) 2147483647 ff80 := hp.2.2.2.2.2.2.2.2.2.2.2.2.2.2.2.2.2.2.2.2.2.2.2.2.2.2.2.2.2.2.2.2.2.2.1
          have ff81_h : rng 0 511 ff81 := hp.2.2.2.2.2.2.2.2.2.2.2.2.2.2.2.2.2.2.2.2.2.2.2.2.2.2.2.2.2.2.2.2.2.2.2.1
          have ff82_h : rng (-1) 8 ff82 := hp.2.2.2.2.2.2.2.2.2.2.2.2.2.2.2.2.2.2.2.2.2.2.2.2.2.2.2.2.2.2.2.2.2.2.2.2.1
          have ff83_h : rng (-1) 8 ff83 := hp.2.2.2.2.2.2.2.2.2.2.2.2.2.2.2.2.2.2.2.2.2.2.2.2.2.2.2.2.2.2.2.2.2.2.2.2.2.1
          have ff85_h : rng (-2147483648) 2147483647 ff85 := hp.2.2.2.2.2.2.2.2.2.2.2.2.2.2.2.2.2.2.2.2.2.2.2.2.2.2.2.2.2.2.2.2.2.2.2.2.2.2.1
          have pq86 : ∀ (x : Tk × Int × Int) (rd : Int → Int) (h : Nat → Int64) (o : Int → Int), gC T x z41 z40 z39 fy43 fr44 z45 fo42 → XW rd h o fh47 ff48 ff49 ff50 ff51 ff52 ff53 fh54 ff46 z36 z28 z30 z31 z32 z33 z34 z35 → XP (sLine f7 x9 z13 x rd h o) z59 z75 z76 (fun y => gC T y z70 z69 z68 fy72 fr73 z74 fo71) (fun rd h o => XW rd h o fh77 ff78 ff79 ff80 ff81 ff82 ff83 fh84 ff85 z60 z61 z62 z63 z64 z65 z66 z67) := hp.2.2.2.2.2.2.2.2.2.2.2.2.2.2.2.2.2.2.2.2.2.2.2.2.2.2.2.2.2.2.2.2.2.2.2.2.2.2.2.1
          have pq87 : kpB z59 z37 z75 := hp.2.2.2.2.2.2.2.2.2.2.2.2.2.2.2.2.2.2.2.2.2.2.2.2.2.2.2.2.2.2.2.2.2.2.2.2.2.2.2.2
          have w : WD D A s.heap [(a0, .inr (9, [.ref a2, .ref a3, .ref a4, .ref a5, .ref a6, .ref a7, .ref a8, .ref a9, .ref a10, .int (iI z60), .int (iI z61), .int (iI z29), .int (iI z62), .int (iI z63), .int (iI z64), .int (iI z65), .int (iI z66), .int (iI z67)])), (a1, .inr (8, [.ref a11, .int (iI x9), .int (iI z13), .int (iI z68), .int (iI z69), .int (iI z70), (va_rf fo71), .long fy72, .int fr73, .int (iI z74), .int (iI z75), .int (iI z76)])), (a2, .inl (T 1, 9, .inr (.inl fh77))), (a3, .inl (T 0, 9, .inl (cI ff78))), (a4, .inl (T 0, 9, .inl (cI ff79))), (a5, .inl (T 0, 9, .inl (cI ff80))), (a6, .inl (T 0, 9, .inl (cI ff81))), (a7, .inl (T 0, 9, .inl (cI ff82))), (a8, .inl (T 0, 9, .inl (cI ff83))), (a9, .inl (T 1, 3, .inr (.inl fh84))), (a10, .inl (T 0, 3, .inl (cI ff85))), (a11, .inl (T 0, 940, .inl (cI f7)))] H locs := w
          refine lv_if_eq (tgt := 50) hx hb dX9_read_38 (by decide) (fun c_88 => ?_) (fun c_88 => ?_)
          · replace c_88 := (iz_eq (Int.le_trans (by decide) z59_a) (Int.le_trans z59_b (by decide))).mp c_88
            refine lv_iconst (v := iI 0) hx hb dX9_read_50 (by decide +kernel) ?_
            exact ret _ (0, z60, z61, z29, z62, z63, z64, z65, z66, z67, z13, z68, z69, z70, fo71, fy72, fr73, z74, z75, z76, fh77, ff78, ff79, ff80, ff81, ff82, ff83, fh84, ff85) _ _ _ _ _ [0, 1, 2, 3, 4, 5, 6, 7, 8, 9, 10, 11] dX9_read_51 (by decide +kernel) ⟨rfl, (show (0 : Int) ≤ 0 from by decide), (show (0 : Int) ≤ 1 from by decide), z60_a, z60_b, z61_a, z61_b, z29_a, z29_b, z62_a, z62_b, z63_a, z63_b, z64_a, z64_b, z65_a, z65_b, z66_a, z66_b, z67_a, z67_b, z13_a, z13_b, z68_a, z68_b, z69_a, z69_b, z70_a, z70_b, fo71_h, z74_a, z74_b, z75_a, z75_b, z76_a, z76_b, ff78_h, ff79_h, ff80_h, ff81_h, ff82_h, ff83_h, ff85_h, (show ∀ (rd : Int → Int) (h : Nat → Int64) (o : Int → Int), rd0P rd → o0P o → CXr (ctN f7 x9 900 1000 ⟨tkAt f7 x9 900 0, rd, h, o⟩ 0) 0 z75 z76 z29 (fun rd h o => XW rd h o fh77 ff78 ff79 ff80 ff81 ff82 ff83 fh84 ff85 z60 z61 z62 z63 z64 z65 z66 z67) from (by intro rd h o hr ho; have h0 := lq1_c rd h o hr ho; have hb := cx_b h0; have hc := cx_f1 h0 (by omega) (by omega) (fun x g e => absurd ((gC_end g).mpr e) (by omega)) pq86 (by omega); have e1 : z13 = 900 := (by omega); rw [e1] at hc; rw [hc]; exact ⟨rfl, rfl, rfl⟩)), (show kpB 0 0 z75 from (fun e => absurd e (by decide)))⟩ w (by decide) rfl
          · replace c_88 : ¬ z59 = 0 := fun h => c_88 ((iz_eq (Int.le_trans (by decide) z59_a) (Int.le_trans z59_b (by decide))).mpr h)
            refine lv_aload_n hx hb dX9_read_41 rfl (lv_at hl 1 rfl) ?_
            refine lv_bipush (v := iI 59) hx hb dX9_read_42 (by decide +kernel) ?_
            refine k_I (ce := 0) (sl := 0) (rest := []) (wr := [(a0, .inr (9, [.ref a2, .ref a3, .ref a4, .ref a5, .ref a6, .ref a7, .ref a8, .ref a9, .ref a10, .int (iI z60), .int (iI z61), .int (iI z29), .int (iI z62), .int (iI z63), .int (iI z64), .int (iI z65), .int (iI z66), .int (iI z67)])), (a2, .inl (T 1, 9, .inr (.inl fh77))), (a3, .inl (T 0, 9, .inl (cI ff78))), (a4, .inl (T 0, 9, .inl (cI ff79))), (a5, .inl (T 0, 9, .inl (cI ff80))), (a6, .inl (T 0, 9, .inl (cI ff81))), (a7, .inl (T 0, 9, .inl (cI ff82))), (a8, .inl (T 0, 9, .inl (cI ff83))), (a9, .inl (T 1, 3, .inr (.inl fh84))), (a10, .inl (T 0, 3, .inl (cI ff85)))]) (r_V (f := 5) [1, 11] M w V_HookedCity_Town_98 G779 G780 (c272_X8_pass l D T _ a1 59 a11 x9 z13 z68 z69 z70 fo71 fy72 fr73 z74 z75 z76 f7 (by decide) (by decide) x9_a x9_b z13_a z13_b z68_a z68_b z69_a z69_b z70_a z70_b fo71_h z74_a z74_b z75_a z75_b z76_a z76_b f7_h) 1 clX8 rfl rfl (by decide) rfl hl.1 rfl (Nat.le_of_ble_eq_true rfl) dX9_read_44 (by decide) (by decide) (by decide) (by decide)) w [1, 11] [0, 2, 3, 4, 5, 6, 7, 8, 9, 10] rfl rfl (by decide) (by decide) rfl rfl (fun v u H locs hp w => ?_)
            obtain ⟨z89, z90, z91, z92, fo93, fy94, fr95, z96, z97, z98⟩ := u
            have hv : iI z89 = v := hp.1
            subst hv
            have z89_a : 0 ≤ z89 := hp.2.1
            have z89_b : z89 ≤ 1 := hp.2.2.1
            have z90_a : 0 ≤ z90 := hp.2.2.2.1
            have z90_b : z90 ≤ 940 := hp.2.2.2.2.1
            have z91_a : 0 ≤ z91 := hp.2.2.2.2.2.1
            have z91_b : z91 ≤ 940 := hp.2.2.2.2.2.2.1
            have z92_a : 0 ≤ z92 := hp.2.2.2.2.2.2.2.1
            have z92_b : z92 ≤ 5 := hp.2.2.2.2.2.2.2.2.1
            have fo93_h : wok T fo93 := hp.2.2.2.2.2.2.2.2.2.1
            have z96_a : (-2147483648) ≤ z96 := hp.2.2.2.2.2.2.2.2.2.2.1
            have z96_b : z96 ≤ 2147483647 := hp.2.2.2.2.2.2.2.2.2.2.2.1
            have z97_a : (-2147483648) ≤ z97 := hp.2.2.2.2.2.2.2.2.2.2.2.2.1
            have z97_b : z97 ≤ 2147483647 := hp.2.2.2.2.2.2.2.2.2.2.2.2.2.1
            have z98_a : 0 ≤ z98 := hp.2.2.2.2.2.2.2.2.2.2.2.2.2.2.1
            have z98_b : z98 ≤ 940 := hp.2.2.2.2.2.2.2.2.2.2.2.2.2.2.2.1
            have pq99 : ∀ x : Tk × Int × Int, gC T x z70 z69 z68 fy72 fr73 z74 fo71 → enP f7 x9 z13 59 x z89 z97 z98 (fun y => gC T y z92 z91 z90 fy94 fr95 z96 fo93) := hp.2.2.2.2.2.2.2.2.2.2.2.2.2.2.2.2.1
            have pq100 : kpB z89 z75 z97 := hp.2.2.2.2.2.2.2.2.2.2.2.2.2.2.2.2.2
            have w : WD D A s.heap [(a0, .inr (9, [.ref a2, .ref a3, .ref a4, .ref a5, .ref a6, .ref a7, .ref a8, .ref a9, .ref a10, .int (iI z60), .int (iI z61), .int (iI z29), .int (iI z62), .int (iI z63), .int (iI z64), .int (iI z65), .int (iI z66), .int (iI z67)])), (a2, .inl (T 1, 9, .inr (.inl fh77))), (a3, .inl (T 0, 9, .inl (cI ff78))), (a4, .inl (T 0, 9, .inl (cI ff79))), (a5, .inl (T 0, 9, .inl (cI ff80))), (a6, .inl (T 0, 9, .inl (cI ff81))), (a7, .inl (T 0, 9, .inl (cI ff82))), (a8, .inl (T 0, 9, .inl (cI ff83))), (a9, .inl (T 1, 3, .inr (.inl fh84))), (a10, .inl (T 0, 3, .inl (cI ff85))), (a1, .inr (8, [.ref a11, .int (iI x9), .int (iI z13), .int (iI z90), .int (iI z91), .int (iI z92), (va_rf fo93), .long fy94, .int fr95, .int (iI z96), .int (iI z97), .int (iI z98)])), (a11, .inl (T 0, 940, .inl (cI f7)))] H locs := w
            refine lv_if_ne (tgt := 52) hx hb dX9_read_47 (by decide) (fun c_101 => ?_) (fun c_101 => ?_)
            · replace c_101 : ¬ z89 = 0 := fun h => c_101 ((iz_eq (Int.le_trans (by decide) z89_a) (Int.le_trans z89_b (by decide))).mpr h)
              refine lv_aload_n hx hb dX9_read_52 rfl (lv_at hl 0 rfl) ?_
              refine lv_dup hx hb dX9_read_53 rfl ?_
              refine r_get (v := .int (iI z29)) M w 0 11 clX9 rfl (by decide) G396 rfl rfl dX9_read_54 ?_
              refine lv_iconst (v := iI 1) hx hb dX9_read_57 (by decide +kernel) ?_
              refine r_iadd (v := iI (z29 + 1)) M (iI_add _ _) dX9_read_58 ?_
              refine r_put (ws' := [(a0, .inr (9, [.ref a2, .ref a3, .ref a4, .ref a5, .ref a6, .ref a7, .ref a8, .ref a9, .ref a10, .int (iI z60), .int (iI z61), .int (iI (z29 + 1)), .int (iI z62), .int (iI z63), .int (iI z64), .int (iI z65), .int (iI z66), .int (iI z67)])), (a2, .inl (T 1, 9, .inr (.inl fh77))), (a3, .inl (T 0, 9, .inl (cI ff78))), (a4, .inl (T 0, 9, .inl (cI ff79))), (a5, .inl (T 0, 9, .inl (cI ff80))), (a6, .inl (T 0, 9, .inl (cI ff81))), (a7, .inl (T 0, 9, .inl (cI ff82))), (a8, .inl (T 0, 9, .inl (cI ff83))), (a9, .inl (T 1, 3, .inr (.inl fh84))), (a10, .inl (T 0, 3, .inl (cI ff85))), (a1, .inr (8, [.ref a11, .int (iI x9), .int (iI z13), .int (iI z90), .int (iI z91), .int (iI z92), (va_rf fo93), .long fy94, .int fr95, .int (iI z96), .int (iI z97), .int (iI z98)])), (a11, .inl (T 0, 940, .inl (cI f7)))]) M w 0 11 clX9 rfl (by decide) G396 rfl rfl rfl rfl (Nat.le_of_ble_eq_true rfl) rfl dX9_read_59 (fun H locs w => ?_)
              refine lv_goto (tgt := 16) hx hb dX9_read_62 (by decide) ?_
              exact ih1 z61 (z29 + 1) z62 z63 z64 z65 z66 z67 z60 z97 z98 z90 z91 z92 fo93 fy94 fr95 z96 ff85 fh77 ff78 ff79 ff80 ff81 ff82 ff83 fh84 _ _ _ z61_a z61_b (by omega) (by omega) z62_a z62_b z63_a z63_b z64_a z64_b z65_a z65_b z66_a z66_b z67_a z67_b z60_a z60_b z97_a z97_b z98_a z98_b z90_a z90_b z91_a z91_b z92_a z92_b fo93_h z96_a z96_b ff85_h ff78_h ff79_h ff80_h ff81_h ff82_h ff83_h (fun rd h o hr ho => cx_step (lq1_c rd h o hr ho) (by omega) (by omega) (fun x g e => absurd ((gC_end g).mpr e) (by omega)) pq86 (by omega) pq99 (by omega)) (by have y2 := pq87 (by omega); have y3 := pq100 (by omega); omega) (by omega) w (lv_sub hl [0, 1] rfl)
            · replace c_101 := (iz_eq (Int.le_trans (by decide) z89_a) (Int.le_trans z89_b (by decide))).mp c_101
              refine lv_iconst (v := iI 0) hx hb dX9_read_50 (by decide +kernel) ?_
              exact ret _ (0, z60, z61, z29, z62, z63, z64, z65, z66, z67, z13, z90, z91, z92, fo93, fy94, fr95, z96, z97, z98, fh77, ff78, ff79, ff80, ff81, ff82, ff83, fh84, ff85) _ _ _ _ _ [0, 10, 1, 2, 3, 4, 5, 6, 7, 8, 9, 11] dX9_read_51 (by decide +kernel) ⟨rfl, (show (0 : Int) ≤ 0 from by decide), (show (0 : Int) ≤ 1 from by decide), z60_a, z60_b, z61_a, z61_b, z29_a, z29_b, z62_a, z62_b, z63_a, z63_b, z64_a, z64_b, z65_a, z65_b, z66_a, z66_b, z67_a, z67_b, z13_a, z13_b, z90_a, z90_b, z91_a, z91_b, z92_a, z92_b, fo93_h, z96_a, z96_b, z97_a, z97_b, z98_a, z98_b, ff78_h, ff79_h, ff80_h, ff81_h, ff82_h, ff83_h, ff85_h, (show ∀ (rd : Int → Int) (h : Nat → Int64) (o : Int → Int), rd0P rd → o0P o → CXr (ctN f7 x9 900 1000 ⟨tkAt f7 x9 900 0, rd, h, o⟩ 0) 0 z97 z98 z29 (fun rd h o => XW rd h o fh77 ff78 ff79 ff80 ff81 ff82 ff83 fh84 ff85 z60 z61 z62 z63 z64 z65 z66 z67) from (by intro rd h o hr ho; have h0 := lq1_c rd h o hr ho; have hb := cx_b h0; have hc := cx_f2 h0 (by omega) (by omega) (fun x g e => absurd ((gC_end g).mpr e) (by omega)) pq86 (by omega) pq99 (by omega); have e1 : z13 = 900 := (by omega); rw [e1] at hc; rw [hc]; exact ⟨rfl, rfl, rfl⟩)), (show kpB 0 0 z97 from (fun e => absurd e (by decide)))⟩ w (by decide) rfl
        · subst hr
          refine lv_if_ne (tgt := 65) hx hb dX9_read_30 (by decide) (fun _ => ?_) (fun c => absurd c (by decide +kernel))
          refine lv_iconst (v := iI 1) hx hb dX9_read_65 (by decide +kernel) ?_
          exact ret _ (1, z36, z28, z29, z30, z31, z32, z33, z34, z35, z13, z39, z40, z41, fo42, fy43, fr44, z45, z37, z38, fh47, ff48, ff49, ff50, ff51, ff52, ff53, fh54, ff46) _ _ _ _ _ [0, 11, 1, 2, 3, 4, 5, 6, 7, 8, 9, 10] dX9_read_66 (by decide +kernel) ⟨rfl, (show (0 : Int) ≤ 1 from by decide), (show (1 : Int) ≤ 1 from by decide), z36_a, z36_b, z28_a, z28_b, z29_a, z29_b, z30_a, z30_b, z31_a, z31_b, z32_a, z32_b, z33_a, z33_b, z34_a, z34_b, z35_a, z35_b, z13_a, z13_b, z39_a, z39_b, z40_a, z40_b, z41_a, z41_b, fo42_h, z45_a, z45_b, z37_a, z37_b, z38_a, z38_b, ff48_h, ff49_h, ff50_h, ff51_h, ff52_h, ff53_h, ff46_h, (show ∀ (rd : Int → Int) (h : Nat → Int64) (o : Int → Int), rd0P rd → o0P o → CXr (ctN f7 x9 900 1000 ⟨tkAt f7 x9 900 0, rd, h, o⟩ 0) 1 z37 z38 z29 (fun rd h o => XW rd h o fh47 ff48 ff49 ff50 ff51 ff52 ff53 fh54 ff46 z36 z28 z30 z31 z32 z33 z34 z35) from (by intro rd h o hr ho; have h0 := lq1_c rd h o hr ho; have hb := cx_b h0; obtain ⟨s9, hc, hv⟩ := cx_fin h0 (by omega) (by omega) (fun x g => (gC_end g).mp (by omega)); have e1 : z13 = 900 := (by omega); rw [e1] at hc; rw [hc]; exact ⟨rfl, rfl, hv⟩)), (show kpB 1 0 z37 from (fun hr => by omega))⟩ w (by decide) rfl
  exact loop1 ((900 : Int).toNat + 1) z2 0 z3 z4 z5 z6 z7 z8 z1 z21 z22 z14 z15 z16 fo17 fy18 fr19 z20 f6 h0 f0 f1 f2 ff9 ff10 ff11 h1 _ _ _ z2_a z2_b (by decide) (by decide) z3_a z3_b z4_a z4_b z5_a z5_b z6_a z6_b z7_a z7_b z8_a z8_b z1_a z1_b z21_a z21_b z22_a z22_b z14_a z14_b z15_a z15_b z16_a z16_b fo17_h z20_a z20_b f6_h f0_h f1_h f2_h ff9_h ff10_h ff11_h (fun rd h o hr ho => cx_0 (by omega) pq27 (xw_0 pq12 hr ho)) (by omega) (Nat.lt_succ_self _) w (lv_sub hl [0, 1] rfl)
set_option maxRecDepth 100000 in
set_option maxHeartbeats 4000000 in
theorem c294_X9_nameAt (l : Launch) (D : va_G) (T : Nat → ClassId) (sz : Nat) (a0 : Nat) (a1 : Nat) (a2 : Nat) (x0 : Int) (a3 : Nat) (x1 : Int) (x2 : Int) (x3 : Int) (x4 : Int) (x5 : Int) (o0 : Option Nat) (y0 : Int64) (r0 : Int32) (x6 : Int) (x7 : Int) (x8 : Int) (h0 : Nat → Int64) (f0 : Int → Int) (x0_a : 0 ≤ x0) (x0_b : x0 ≤ 9) (x1_a : 0 ≤ x1) (x1_b : x1 ≤ 940) (x2_a : 0 ≤ x2) (x2_b : x2 ≤ 940) (x3_a : 0 ≤ x3) (x3_b : x3 ≤ 940) (x4_a : 0 ≤ x4) (x4_b : x4 ≤ 940) (x5_a : 0 ≤ x5) (x5_b : x5 ≤ 5) (o0_h : wok T o0) (x6_a : (-2147483648) ≤ x6) (x6_b : x6 ≤ 2147483647) (x7_a : (-2147483648) ≤ x7) (x7_b : x7 ≤ 2147483647) (x8_a : 0 ≤ x8) (x8_b : x8 ≤ 940) (f0_h : rng 0 255 f0) : Met l yX9_nameAt (Cond.code yX9_nameAt cX9_nameAt 5 (some .int) :: GW) (Rm 1 0 0) (cPre [.ref a0, .ref a1, .ref a2, .int (iI x0)] D T [(a1, .inr (8, [.ref a3, .int (iI x1), .int (iI x2), .int (iI x3), .int (iI x4), .int (iI x5), (va_rf o0), .long y0, .int r0, .int (iI x6), .int (iI x7), .int (iI x8)])), (a2, .inl (T 1, 3, .inr (.inl h0))), (a3, .inl (T 0, 940, .inl (cI f0)))] sz) (qI D [(a1, .inr (8, [.ref a3, .int (iI x1), .int (iI x2), .int (iI x3), .int (iI x4), .int (iI x5), (va_rf o0), .long y0, .int r0, .int (iI x6), .int (iI x7), .int (iI x8)])), (a2, .inl (T 1, 3, .inr (.inl h0))), (a3, .inl (T 0, 940, .inl (cI f0)))] sz (fun (v : Int32) (u : Int × Int × Int) => iI u.1 = v ∧ (-1) ≤ u.1 ∧ u.1 ≤ 8 ∧ (-2147483648) ≤ u.2.1 ∧ u.2.1 ≤ 2147483647 ∧ 0 ≤ u.2.2 ∧ u.2.2 ≤ 940 ∧ 0 ≤ ((x0 - u.1) - 1) ∧ (x0 ≤ 3 → ∀ x : Tk × Int × Int, gC T x x5 x4 x3 y0 r0 x6 o0 → XV (sNa h0 x0 x) u.1 u.2.1 u.2.2) ∧ (kpF u.1 x7 u.2.1)) (fun u => [(a1, .inr (8, [.ref a3, .int (iI x1), .int (iI x2), .int (iI x3), .int (iI x4), .int (iI x5), (va_rf o0), .long y0, .int r0, .int (iI x6), .int (iI u.2.1), .int (iI u.2.2)])), (a2, .inl (T 1, 3, .inr (.inl h0))), (a3, .inl (T 0, 940, .inl (cI f0)))])) 0 0 (va_A [(a1, .inr (8, [.ref a3, .int (iI x1), .int (iI x2), .int (iI x3), .int (iI x4), .int (iI x5), (va_rf o0), .long y0, .int r0, .int (iI x6), .int (iI x7), .int (iI x8)])), (a2, .inl (T 1, 3, .inr (.inl h0))), (a3, .inl (T 0, 940, .inl (cI f0)))] sz) := by
  refine e_I (by decide) (Nat.le_of_ble_eq_true rfl) ?_
  intro p e s m args below meth c A Q ls M hin w ret hl
  have hx := M.1.1
  have hb := M.1.2.1
  have hl : lv_has ls 5 [(0, .ref a0), (1, .ref a1), (2, .ref a2), (3, .int (iI x0))] := hl
  refine lv_aload_n hx hb dX9_nameAt_0 rfl (lv_at hl 1 rfl) ?_
  refine r_getN (v := .int (iI x5)) M w 0 5 clX8 rfl (by decide) N169 rfl rfl dX9_nameAt_1 ?_
  refine lv_iconst (v := iI 3) hx hb dX9_nameAt_4 (by decide +kernel) ?_
  refine lv_icmp_eq (tgt := 16) hx hb dX9_nameAt_5 (by decide) (fun c_1 => ?_) (fun c_1 => ?_)
  · replace c_1 := (iI_eq (Int.le_trans (by decide) x5_a) (Int.le_trans x5_b (by decide)) (by decide) (by decide)).mp c_1
    refine lv_aload_n hx hb dX9_nameAt_16 rfl (lv_at hl 2 rfl) ?_
    refine lv_iload_n hx hb dX9_nameAt_17 rfl (lv_at hl 3 rfl) ?_
    refine lv_aload_n hx hb dX9_nameAt_18 rfl (lv_at hl 1 rfl) ?_
    refine r_getN (v := .long y0) M w 0 7 clX8 rfl (by decide) N175 rfl rfl dX9_nameAt_19 ?_
    refine k_I (ce := 0) (sl := 0) (rest := []) (wr := [(a1, .inr (8, [.ref a3, .int (iI x1), .int (iI x2), .int (iI x3), .int (iI x4), .int (iI x5), (va_rf o0), .long y0, .int r0, .int (iI x6), .int (iI x7), .int (iI x8)])), (a3, .inl (T 0, 940, .inl (cI f0)))]) (r_S (f := 0) [1] M w V_HookedCity_Town_182 G719 (c287_X9_placeOf l D T _ a2 x0 y0 h0 x0_a x0_b) rfl (by decide) rfl hl.1 rfl (Nat.le_of_ble_eq_true rfl) dX9_nameAt_22 (by decide) (by decide) (by decide) (by decide)) w [1] [0, 2] rfl rfl (by decide) (by decide) rfl rfl (fun v z2 H locs hp w => ?_)
    have hv : iI z2 = v := hp.1
    subst hv
    have z2_a : (-1) ≤ z2 := hp.2.1
    have z2_b : z2 ≤ 8 := hp.2.2.1
    have ee3 : 0 ≤ ((x0 - z2) - 1) := hp.2.2.2.1
    have pq4 : x0 ≤ 3 → z2 = FI h0 0 x0 y0 := hp.2.2.2.2
    have w : WD D A s.heap [(a1, .inr (8, [.ref a3, .int (iI x1), .int (iI x2), .int (iI x3), .int (iI x4), .int (iI x5), (va_rf o0), .long y0, .int r0, .int (iI x6), .int (iI x7), .int (iI x8)])), (a3, .inl (T 0, 940, .inl (cI f0))), (a2, .inl (T 1, 3, .inr (.inl h0)))] H locs := w
    refine lv_istore (lv' := [(4, .int (iI z2)), (0, .ref a0), (1, .ref a1), (2, .ref a2), (3, .int (iI x0))]) hx hb dX9_nameAt_25 hl (by decide) rfl (fun ls hl => ?_)
    refine lv_iload hx hb dX9_nameAt_27 (lv_at hl 0 rfl) ?_
    refine lv_iconst (v := iI (-1)) hx hb dX9_nameAt_29 (by decide +kernel) ?_
    refine lv_icmp_ne (tgt := 39) hx hb dX9_nameAt_30 (by decide) (fun c_5 => ?_) (fun c_5 => ?_)
    · replace c_5 : ¬ z2 = (-1) := fun h => c_5 ((iI_eq (Int.le_trans (by decide) z2_a) (Int.le_trans z2_b (by decide)) (by decide) (by decide)).mpr h)
      refine lv_iload hx hb dX9_nameAt_39 (lv_at hl 0 rfl) ?_
      exact ret _ (z2, x7, x8) _ _ _ _ _ [0, 2, 1] dX9_nameAt_41 ⟨rfl, z2_a, z2_b, x7_a, x7_b, x8_a, x8_b, (show 0 ≤ ((x0 - z2) - 1) from by omega), (show x0 ≤ 3 → ∀ x : Tk × Int × Int, gC T x x5 x4 x3 y0 r0 x6 o0 → XV (sNa h0 x0 x) z2 x7 x8 from (fun hm => cna_C (by omega) (pq4 hm) (by omega) (by omega))), (show kpF z2 x7 x7 from (fun hr => by omega))⟩ w (by decide) rfl
    · replace c_5 := (iI_eq (Int.le_trans (by decide) z2_a) (Int.le_trans z2_b (by decide)) (by decide) (by decide)).mp c_5
      refine lv_aload_n hx hb dX9_nameAt_33 rfl (lv_at hl 2 rfl) ?_
      refine lv_iconst (v := iI 3) hx hb dX9_nameAt_34 (by decide +kernel) ?_
      refine k_I (ce := 0) (sl := 0) (rest := []) (wr := [(a3, .inl (T 0, 940, .inl (cI f0))), (a2, .inl (T 1, 3, .inr (.inl h0)))]) (r_V (f := 0) [0] M w V_HookedCity_Town_150 G710 G711 (c271_X8_fail l D T _ a1 3 a3 x1 x2 x3 x4 x5 o0 y0 r0 x6 x7 x8 (by decide) (by decide) x1_a x1_b x2_a x2_b x3_a x3_b x4_a x4_b x5_a x5_b o0_h x6_a x6_b x7_a x7_b x8_a x8_b) 0 clX8 rfl rfl (by decide) rfl hl.1 rfl (Nat.le_of_ble_eq_true rfl) dX9_nameAt_35 (by decide) (by decide) (by decide) (by decide)) w [0] [1, 2] rfl rfl (by decide) (by decide) rfl rfl (fun v u H locs hp w => ?_)
      obtain ⟨z6, z7, z8⟩ := u
      have hv : iI z6 = v := hp.1
      subst hv
      have z6_a : 0 ≤ z6 := hp.2.1
      have z6_b : z6 ≤ 1 := hp.2.2.1
      have z7_a : (-2147483648) ≤ z7 := hp.2.2.2.1
      have z7_b : z7 ≤ 2147483647 := hp.2.2.2.2.1
      have z8_a : 0 ≤ z8 := hp.2.2.2.2.2.1
      have z8_b : z8 ≤ 940 := hp.2.2.2.2.2.2.1
      have pq9 : z7 = 3 := hp.2.2.2.2.2.2.2.1
      have pq10 : z8 = x4 := hp.2.2.2.2.2.2.2.2.1
      have w : WD D A s.heap [(a3, .inl (T 0, 940, .inl (cI f0))), (a2, .inl (T 1, 3, .inr (.inl h0))), (a1, .inr (8, [.ref a3, .int (iI x1), .int (iI x2), .int (iI x3), .int (iI x4), .int (iI x5), (va_rf o0), .long y0, .int r0, .int (iI x6), .int (iI z7), .int (iI z8)]))] H locs := w
      rcases hp.2.2.2.2.2.2.2.2.2 with hr
      · subst hr
        refine lv_pop hx hb dX9_nameAt_38 rfl ?_
        refine lv_iload hx hb dX9_nameAt_39 (lv_at hl 0 rfl) ?_
        exact ret _ (z2, z7, z8) _ _ _ _ _ [2, 1, 0] dX9_nameAt_41 ⟨rfl, z2_a, z2_b, z7_a, z7_b, z8_a, z8_b, (show 0 ≤ ((x0 - z2) - 1) from by omega), (show x0 ≤ 3 → ∀ x : Tk × Int × Int, gC T x x5 x4 x3 y0 r0 x6 o0 → XV (sNa h0 x0 x) z2 z7 z8 from (fun hm => cna_B (by omega) (pq4 hm) (by omega) (by omega) pq10)), (show kpF z2 x7 z7 from (fun hr => by omega))⟩ w (by decide) rfl
  · replace c_1 : ¬ x5 = 3 := fun h => c_1 ((iI_eq (Int.le_trans (by decide) x5_a) (Int.le_trans x5_b (by decide)) (by decide) (by decide)).mpr h)
    refine lv_aload_n hx hb dX9_nameAt_8 rfl (lv_at hl 1 rfl) ?_
    refine lv_iconst (v := iI 1) hx hb dX9_nameAt_9 (by decide +kernel) ?_
    refine k_I (ce := 0) (sl := 0) (rest := []) (wr := [(a2, .inl (T 1, 3, .inr (.inl h0))), (a3, .inl (T 0, 940, .inl (cI f0)))]) (r_V (f := 0) [0] M w V_HookedCity_Town_150 G710 G711 (c271_X8_fail l D T _ a1 1 a3 x1 x2 x3 x4 x5 o0 y0 r0 x6 x7 x8 (by decide) (by decide) x1_a x1_b x2_a x2_b x3_a x3_b x4_a x4_b x5_a x5_b o0_h x6_a x6_b x7_a x7_b x8_a x8_b) 0 clX8 rfl rfl (by decide) rfl hl.1 rfl (Nat.le_of_ble_eq_true rfl) dX9_nameAt_10 (by decide) (by decide) (by decide) (by decide)) w [0] [1, 2] rfl rfl (by decide) (by decide) rfl rfl (fun v u H locs hp w => ?_)
    obtain ⟨z11, z12, z13⟩ := u
    have hv : iI z11 = v := hp.1
    subst hv
    have z11_a : 0 ≤ z11 := hp.2.1
    have z11_b : z11 ≤ 1 := hp.2.2.1
    have z12_a : (-2147483648) ≤ z12 := hp.2.2.2.1
    have z12_b : z12 ≤ 2147483647 := hp.2.2.2.2.1
    have z13_a : 0 ≤ z13 := hp.2.2.2.2.2.1
    have z13_b : z13 ≤ 940 := hp.2.2.2.2.2.2.1
    have pq14 : z12 = 1 := hp.2.2.2.2.2.2.2.1
    have pq15 : z13 = x4 := hp.2.2.2.2.2.2.2.2.1
    have w : WD D A s.heap [(a2, .inl (T 1, 3, .inr (.inl h0))), (a3, .inl (T 0, 940, .inl (cI f0))), (a1, .inr (8, [.ref a3, .int (iI x1), .int (iI x2), .int (iI x3), .int (iI x4), .int (iI x5), (va_rf o0), .long y0, .int r0, .int (iI x6), .int (iI z12), .int (iI z13)]))] H locs := w
    rcases hp.2.2.2.2.2.2.2.2.2 with hr
    · subst hr
      refine lv_pop hx hb dX9_nameAt_13 rfl ?_
      refine lv_iconst (v := iI (-1)) hx hb dX9_nameAt_14 (by decide +kernel) ?_
      exact ret _ ((-1), z12, z13) _ _ _ _ _ [2, 0, 1] dX9_nameAt_15 ⟨rfl, (show (-1) ≤ (-1) from by decide), (show ((-1) : Int) ≤ 8 from by decide), z12_a, z12_b, z13_a, z13_b, (show 0 ≤ ((x0 - (-1)) - 1) from by omega), (show x0 ≤ 3 → ∀ x : Tk × Int × Int, gC T x x5 x4 x3 y0 r0 x6 o0 → XV (sNa h0 x0 x) (-1) z12 z13 from (fun _ => cna_A (by omega) (by omega) pq15)), (show kpF (-1) x7 z12 from (fun e => absurd rfl e))⟩ w (by decide) rfl
set_option maxRecDepth 100000 in
set_option maxHeartbeats 4000000 in
theorem c295_X9_maidAt (l : Launch) (D : va_G) (T : Nat → ClassId) (sz : Nat) (a0 : Nat) (a1 : Nat) (a2 : Nat) (a3 : Nat) (a4 : Nat) (a5 : Nat) (a6 : Nat) (a7 : Nat) (a8 : Nat) (a9 : Nat) (a10 : Nat) (x0 : Int) (x1 : Int) (x2 : Int) (x3 : Int) (x4 : Int) (x5 : Int) (x6 : Int) (x7 : Int) (x8 : Int) (a11 : Nat) (x9 : Int) (x10 : Int) (x11 : Int) (x12 : Int) (x13 : Int) (o0 : Option Nat) (y0 : Int64) (r0 : Int32) (x14 : Int) (x15 : Int) (x16 : Int) (h0 : Nat → Int64) (f0 : Int → Int) (x0_a : 0 ≤ x0) (x0_b : x0 ≤ 9) (x1_a : 0 ≤ x1) (x1_b : x1 ≤ 3) (x2_a : 0 ≤ x2) (x2_b : x2 ≤ 900) (x3_a : (-2147483648) ≤ x3) (x3_b : x3 ≤ 2147483647) (x4_a : (-2147483648) ≤ x4) (x4_b : x4 ≤ 2147483647) (x5_a : (-2147483648) ≤ x5) (x5_b : x5 ≤ 2147483647) (x6_a : 0 ≤ x6) (x6_b : x6 ≤ 1) (x7_a : 0 ≤ x7) (x7_b : x7 ≤ 1) (x8_a : 0 ≤ x8) (x8_b : x8 ≤ 1) (x9_a : 0 ≤ x9) (x9_b : x9 ≤ 940) (x10_a : 0 ≤ x10) (x10_b : x10 ≤ 940) (x11_a : 0 ≤ x11) (x11_b : x11 ≤ 940) (x12_a : 0 ≤ x12) (x12_b : x12 ≤ 940) (x13_a : 0 ≤ x13) (x13_b : x13 ≤ 5) (o0_h : wok T o0) (x14_a : (-2147483648) ≤ x14) (x14_b : x14 ≤ 2147483647) (x15_a : (-2147483648) ≤ x15) (x15_b : x15 ≤ 2147483647) (x16_a : 0 ≤ x16) (x16_b : x16 ≤ 940) (f0_h : rng 0 255 f0) : Met l yX9_maidAt (Cond.code yX9_maidAt cX9_maidAt 2 (some .int) :: GW) (Rm 2 0 0) (cPre [.ref a0, .ref a1] D T [(a0, .inr (9, [.ref a2, .ref a3, .ref a4, .ref a5, .ref a6, .ref a7, .ref a8, .ref a9, .ref a10, .int (iI x0), .int (iI x1), .int (iI x2), .int (iI x3), .int (iI x4), .int (iI x5), .int (iI x6), .int (iI x7), .int (iI x8)])), (a1, .inr (8, [.ref a11, .int (iI x9), .int (iI x10), .int (iI x11), .int (iI x12), .int (iI x13), (va_rf o0), .long y0, .int r0, .int (iI x14), .int (iI x15), .int (iI x16)])), (a9, .inl (T 1, 3, .inr (.inl h0))), (a11, .inl (T 0, 940, .inl (cI f0)))] sz) (qI D [(a0, .inr (9, [.ref a2, .ref a3, .ref a4, .ref a5, .ref a6, .ref a7, .ref a8, .ref a9, .ref a10, .int (iI x0), .int (iI x1), .int (iI x2), .int (iI x3), .int (iI x4), .int (iI x5), .int (iI x6), .int (iI x7), .int (iI x8)])), (a1, .inr (8, [.ref a11, .int (iI x9), .int (iI x10), .int (iI x11), .int (iI x12), .int (iI x13), (va_rf o0), .long y0, .int r0, .int (iI x14), .int (iI x15), .int (iI x16)])), (a9, .inl (T 1, 3, .inr (.inl h0))), (a11, .inl (T 0, 940, .inl (cI f0)))] sz (fun (v : Int32) (u : Int × Int × Int) => iI u.1 = v ∧ (-1) ≤ u.1 ∧ u.1 ≤ 2 ∧ (-2147483648) ≤ u.2.1 ∧ u.2.1 ≤ 2147483647 ∧ 0 ≤ u.2.2 ∧ u.2.2 ≤ 940 ∧ (kpF u.1 x15 u.2.1) ∧ (∀ x : Tk × Int × Int, gC T x x13 x12 x11 y0 r0 x14 o0 → XV ((sNa h0 x1) x) u.1 u.2.1 u.2.2)) (fun u => [(a0, .inr (9, [.ref a2, .ref a3, .ref a4, .ref a5, .ref a6, .ref a7, .ref a8, .ref a9, .ref a10, .int (iI x0), .int (iI x1), .int (iI x2), .int (iI x3), .int (iI x4), .int (iI x5), .int (iI x6), .int (iI x7), .int (iI x8)])), (a1, .inr (8, [.ref a11, .int (iI x9), .int (iI x10), .int (iI x11), .int (iI x12), .int (iI x13), (va_rf o0), .long y0, .int r0, .int (iI x14), .int (iI u.2.1), .int (iI u.2.2)])), (a9, .inl (T 1, 3, .inr (.inl h0))), (a11, .inl (T 0, 940, .inl (cI f0)))])) 0 0 (va_A [(a0, .inr (9, [.ref a2, .ref a3, .ref a4, .ref a5, .ref a6, .ref a7, .ref a8, .ref a9, .ref a10, .int (iI x0), .int (iI x1), .int (iI x2), .int (iI x3), .int (iI x4), .int (iI x5), .int (iI x6), .int (iI x7), .int (iI x8)])), (a1, .inr (8, [.ref a11, .int (iI x9), .int (iI x10), .int (iI x11), .int (iI x12), .int (iI x13), (va_rf o0), .long y0, .int r0, .int (iI x14), .int (iI x15), .int (iI x16)])), (a9, .inl (T 1, 3, .inr (.inl h0))), (a11, .inl (T 0, 940, .inl (cI f0)))] sz) := by
  refine e_I (by decide) (Nat.le_of_ble_eq_true rfl) ?_
  intro p e s m args below meth c A Q ls M hin w ret hl
  have hx := M.1.1
  have hb := M.1.2.1
  have hl : lv_has ls 2 [(0, .ref a0), (1, .ref a1)] := hl
  refine lv_aload_n hx hb dX9_maidAt_0 rfl (lv_at hl 0 rfl) ?_
  refine lv_aload_n hx hb dX9_maidAt_1 rfl (lv_at hl 1 rfl) ?_
  refine lv_aload_n hx hb dX9_maidAt_2 rfl (lv_at hl 0 rfl) ?_
  refine r_get (v := .ref a9) M w 0 7 clX9 rfl (by decide) G383 rfl rfl dX9_maidAt_3 ?_
  refine lv_aload_n hx hb dX9_maidAt_6 rfl (lv_at hl 0 rfl) ?_
  refine r_get (v := .int (iI x1)) M w 0 10 clX9 rfl (by decide) G393 rfl rfl dX9_maidAt_7 ?_
  refine k_I (ce := 0) (sl := 0) (rest := []) (wr := [(a0, .inr (9, [.ref a2, .ref a3, .ref a4, .ref a5, .ref a6, .ref a7, .ref a8, .ref a9, .ref a10, .int (iI x0), .int (iI x1), .int (iI x2), .int (iI x3), .int (iI x4), .int (iI x5), .int (iI x6), .int (iI x7), .int (iI x8)]))]) (r_V (f := 1) [1, 2, 3] M w V_HookedCity_Town_189 G748 G9 (c294_X9_nameAt l D T _ a0 a1 a9 x1 a11 x9 x10 x11 x12 x13 o0 y0 r0 x14 x15 x16 h0 f0 (by omega) (by omega) x9_a x9_b x10_a x10_b x11_a x11_b x12_a x12_b x13_a x13_b o0_h x14_a x14_b x15_a x15_b x16_a x16_b f0_h) 0 clX9 rfl rfl (by decide) rfl hl.1 rfl (Nat.le_of_ble_eq_true rfl) dX9_maidAt_10 (by decide) (by decide) (by decide) (by decide)) w [1, 2, 3] [0] rfl rfl (by decide) (by decide) rfl rfl (fun v u H locs hp w => ?_)
  obtain ⟨z1, z2, z3⟩ := u
  have hv : iI z1 = v := hp.1
  subst hv
  have z1_a : (-1) ≤ z1 := hp.2.1
  have z1_b : z1 ≤ 8 := hp.2.2.1
  have z2_a : (-2147483648) ≤ z2 := hp.2.2.2.1
  have z2_b : z2 ≤ 2147483647 := hp.2.2.2.2.1
  have z3_a : 0 ≤ z3 := hp.2.2.2.2.2.1
  have z3_b : z3 ≤ 940 := hp.2.2.2.2.2.2.1
  have ee4 : 0 ≤ ((x1 - z1) - 1) := hp.2.2.2.2.2.2.2.1
  have pq5 : x1 ≤ 3 → ∀ x : Tk × Int × Int, gC T x x13 x12 x11 y0 r0 x14 o0 → XV (sNa h0 x1 x) z1 z2 z3 := hp.2.2.2.2.2.2.2.2.1
  have pq6 : kpF z1 x15 z2 := hp.2.2.2.2.2.2.2.2.2
  have w : WD D A s.heap [(a0, .inr (9, [.ref a2, .ref a3, .ref a4, .ref a5, .ref a6, .ref a7, .ref a8, .ref a9, .ref a10, .int (iI x0), .int (iI x1), .int (iI x2), .int (iI x3), .int (iI x4), .int (iI x5), .int (iI x6), .int (iI x7), .int (iI x8)])), (a1, .inr (8, [.ref a11, .int (iI x9), .int (iI x10), .int (iI x11), .int (iI x12), .int (iI x13), (va_rf o0), .long y0, .int r0, .int (iI x14), .int (iI z2), .int (iI z3)])), (a9, .inl (T 1, 3, .inr (.inl h0))), (a11, .inl (T 0, 940, .inl (cI f0)))] H locs := w
  exact ret _ (z1, z2, z3) _ _ _ _ _ [0, 1, 2, 3] dX9_maidAt_13 ⟨rfl, (show (-1) ≤ z1 from by omega), (show z1 ≤ 2 from by omega), z2_a, z2_b, z3_a, z3_b, (show kpF z1 x15 z2 from pq6), (show ∀ x : Tk × Int × Int, gC T x x13 x12 x11 y0 r0 x14 o0 → XV ((sNa h0 x1) x) z1 z2 z3 from (fun x g => pq5 (by omega) x g))⟩ w (by decide) rfl
set_option maxRecDepth 100000 in
set_option maxHeartbeats 4000000 in
theorem c296_X9_everybody (l : Launch) (D : va_G) (T : Nat → ClassId) (sz : Nat) (a0 : Nat) (a1 : Nat) (a2 : Nat) (a3 : Nat) (a4 : Nat) (a5 : Nat) (a6 : Nat) (a7 : Nat) (a8 : Nat) (a9 : Nat) (x0 : Int) (x1 : Int) (x2 : Int) (x3 : Int) (x4 : Int) (x5 : Int) (x6 : Int) (x7 : Int) (x8 : Int) (x0_a : 0 ≤ x0) (x0_b : x0 ≤ 9) (x1_a : 0 ≤ x1) (x1_b : x1 ≤ 3) (x2_a : 0 ≤ x2) (x2_b : x2 ≤ 900) (x3_a : (-2147483648) ≤ x3) (x3_b : x3 ≤ 2147483647) (x4_a : (-2147483648) ≤ x4) (x4_b : x4 ≤ 2147483647) (x5_a : (-2147483648) ≤ x5) (x5_b : x5 ≤ 2147483647) (x6_a : 0 ≤ x6) (x6_b : x6 ≤ 1) (x7_a : 0 ≤ x7) (x7_b : x7 ≤ 1) (x8_a : 0 ≤ x8) (x8_b : x8 ≤ 1) : Met l yX9_everybody (Cond.code yX9_everybody cX9_everybody 1 (some .int) :: GW) (Rm 0 0 0) (cPre [.ref a0] D T [(a0, .inr (9, [.ref a1, .ref a2, .ref a3, .ref a4, .ref a5, .ref a6, .ref a7, .ref a8, .ref a9, .int (iI x0), .int (iI x1), .int (iI x2), .int (iI x3), .int (iI x4), .int (iI x5), .int (iI x6), .int (iI x7), .int (iI x8)]))] sz) (qI D [(a0, .inr (9, [.ref a1, .ref a2, .ref a3, .ref a4, .ref a5, .ref a6, .ref a7, .ref a8, .ref a9, .int (iI x0), .int (iI x1), .int (iI x2), .int (iI x3), .int (iI x4), .int (iI x5), .int (iI x6), .int (iI x7), .int (iI x8)]))] sz (fun (v : Int32) (u : Int) => iI u = v ∧ (-2147483648) ≤ u ∧ u ≤ 2147483647) (fun u => [(a0, .inr (9, [.ref a1, .ref a2, .ref a3, .ref a4, .ref a5, .ref a6, .ref a7, .ref a8, .ref a9, .int (iI x0), .int (iI x1), .int (iI x2), .int (iI x3), .int (iI x4), .int (iI x5), .int (iI x6), .int (iI x7), .int (iI x8)]))])) 0 0 (va_A [(a0, .inr (9, [.ref a1, .ref a2, .ref a3, .ref a4, .ref a5, .ref a6, .ref a7, .ref a8, .ref a9, .int (iI x0), .int (iI x1), .int (iI x2), .int (iI x3), .int (iI x4), .int (iI x5), .int (iI x6), .int (iI x7), .int (iI x8)]))] sz) := by
  refine e_I (by decide) (Nat.le_of_ble_eq_true rfl) ?_
  intro p e s m args below meth c A Q ls M hin w ret hl
  have hx := M.1.1
  have hb := M.1.2.1
  have hl : lv_has ls 1 [(0, .ref a0)] := hl
  refine lv_iconst (v := iI 1) hx hb dX9_everybody_0 (by decide +kernel) ?_
  refine lv_aload_n hx hb dX9_everybody_1 rfl (lv_at hl 0 rfl) ?_
  refine r_get (v := .int (iI x0)) M w 0 9 clX9 rfl (by decide) G387 rfl rfl dX9_everybody_2 ?_
  refine r_ishl (v := _) M rfl dX9_everybody_5 ?_
  refine b_any (fun z1 z1_a z1_b => ?_)
  refine lv_iconst (v := iI 1) hx hb dX9_everybody_6 (by decide +kernel) ?_
  refine r_isub (v := _) M rfl dX9_everybody_7 ?_
  refine b_any (fun z2 z2_a z2_b => ?_)
  exact ret _ z2 _ _ _ _ _ [0] dX9_everybody_8 ⟨rfl, z2_a, z2_b⟩ w (by decide) rfl
set_option maxRecDepth 100000 in
set_option maxHeartbeats 4000000 in
theorem c297_X9_allHooks (l : Launch) (D : va_G) (T : Nat → ClassId) (sz : Nat) (a0 : Nat) (a1 : Nat) (a2 : Nat) (a3 : Nat) (a4 : Nat) (a5 : Nat) (a6 : Nat) (a7 : Nat) (a8 : Nat) (a9 : Nat) (x0 : Int) (x1 : Int) (x2 : Int) (x3 : Int) (x4 : Int) (x5 : Int) (x6 : Int) (x7 : Int) (x8 : Int) (f0 : Int → Int) (x0_a : 0 ≤ x0) (x0_b : x0 ≤ 9) (x1_a : 0 ≤ x1) (x1_b : x1 ≤ 3) (x2_a : 0 ≤ x2) (x2_b : x2 ≤ 900) (x3_a : (-2147483648) ≤ x3) (x3_b : x3 ≤ 2147483647) (x4_a : (-2147483648) ≤ x4) (x4_b : x4 ≤ 2147483647) (x5_a : (-2147483648) ≤ x5) (x5_b : x5 ≤ 2147483647) (x6_a : 0 ≤ x6) (x6_b : x6 ≤ 1) (x7_a : 0 ≤ x7) (x7_b : x7 ≤ 1) (x8_a : 0 ≤ x8) (x8_b : x8 ≤ 1) (f0_h : rng (-2147483648) 2147483647 f0) : Met l yX9_allHooks (Cond.code yX9_allHooks cX9_allHooks 3 (some .int) :: GW) (Rm 0 0 0) (cPre [.ref a0] D T [(a0, .inr (9, [.ref a1, .ref a2, .ref a3, .ref a4, .ref a5, .ref a6, .ref a7, .ref a8, .ref a9, .int (iI x0), .int (iI x1), .int (iI x2), .int (iI x3), .int (iI x4), .int (iI x5), .int (iI x6), .int (iI x7), .int (iI x8)])), (a9, .inl (T 0, 3, .inl (cI f0)))] sz) (qI D [(a0, .inr (9, [.ref a1, .ref a2, .ref a3, .ref a4, .ref a5, .ref a6, .ref a7, .ref a8, .ref a9, .int (iI x0), .int (iI x1), .int (iI x2), .int (iI x3), .int (iI x4), .int (iI x5), .int (iI x6), .int (iI x7), .int (iI x8)])), (a9, .inl (T 0, 3, .inl (cI f0)))] sz (fun (v : Int32) (u : Int) => iI u = v ∧ (-2147483648) ≤ u ∧ u ≤ 2147483647) (fun u => [(a0, .inr (9, [.ref a1, .ref a2, .ref a3, .ref a4, .ref a5, .ref a6, .ref a7, .ref a8, .ref a9, .int (iI x0), .int (iI x1), .int (iI x2), .int (iI x3), .int (iI x4), .int (iI x5), .int (iI x6), .int (iI x7), .int (iI x8)])), (a9, .inl (T 0, 3, .inl (cI f0)))])) 0 0 (va_A [(a0, .inr (9, [.ref a1, .ref a2, .ref a3, .ref a4, .ref a5, .ref a6, .ref a7, .ref a8, .ref a9, .int (iI x0), .int (iI x1), .int (iI x2), .int (iI x3), .int (iI x4), .int (iI x5), .int (iI x6), .int (iI x7), .int (iI x8)])), (a9, .inl (T 0, 3, .inl (cI f0)))] sz) := by
  refine e_I (by decide) (Nat.le_of_ble_eq_true rfl) ?_
  intro p e s m args below meth c A Q ls M hin w ret hl
  have hx := M.1.1
  have hb := M.1.2.1
  have hl : lv_has ls 3 [(0, .ref a0)] := hl
  refine lv_iconst (v := iI 0) hx hb dX9_allHooks_0 (by decide +kernel) ?_
  refine lv_istore_n (lv' := [(1, .int (iI 0)), (0, .ref a0)]) hx hb dX9_allHooks_1 rfl hl (by decide) rfl (fun ls hl => ?_)
  refine lv_iconst (v := iI 0) hx hb dX9_allHooks_2 (by decide +kernel) ?_
  refine lv_istore_n (lv' := [(2, .int (iI 0)), (1, .int (iI 0)), (0, .ref a0)]) hx hb dX9_allHooks_3 rfl hl (by decide) rfl (fun ls hl => ?_)
  have loop1 : ∀ (k1 : Nat) (z1 : Int) (z2 : Int) (H : Heap) (locs : List Loc) (ls : Array Slot), 0 ≤ z1 → z1 ≤ 3 → (-2147483648) ≤ z2 → z2 ≤ 2147483647 → ((x1 - z1) : Int).toNat < k1 → WD D A s.heap [(a0, .inr (9, [.ref a1, .ref a2, .ref a3, .ref a4, .ref a5, .ref a6, .ref a7, .ref a8, .ref a9, .int (iI x0), .int (iI x1), .int (iI x2), .int (iI x3), .int (iI x4), .int (iI x5), .int (iI x6), .int (iI x7), .int (iI x8)])), (a9, .inl (T 0, 3, .inl (cI f0)))] H locs → lv_has ls 3 [(2, .int (iI z1)), (1, .int (iI z2)), (0, .ref a0)] → W p l e (Rm 0 0 0) s m args below meth c H locs 0 0 Q (F0 m 4 ls []) := by
    intro k1
    induction k1 with
    | zero => intro z1 z2 H locs ls z1_a z1_b z2_a z2_b hm; exact absurd hm (Nat.not_lt_zero _)
    | succ k1 ih1 =>
      intro z1 z2 H locs ls z1_a z1_b z2_a z2_b hm1 w hl
      refine lv_iload_n hx hb dX9_allHooks_4 rfl (lv_at hl 0 rfl) ?_
      refine lv_aload_n hx hb dX9_allHooks_5 rfl (lv_at hl 2 rfl) ?_
      refine r_get (v := .int (iI x1)) M w 0 10 clX9 rfl (by decide) G393 rfl rfl dX9_allHooks_6 ?_
      refine lv_icmp_ge (tgt := 27) hx hb dX9_allHooks_9 (by decide) (fun c_3 => ?_) (fun c_3 => ?_)
      · replace c_3 := (iI_le (Int.le_trans (by decide) x1_a) (Int.le_trans x1_b (by decide)) (Int.le_trans (by decide) z1_a) (Int.le_trans z1_b (by decide))).mp c_3
        refine lv_iload_n hx hb dX9_allHooks_27 rfl (lv_at hl 1 rfl) ?_
        exact ret _ z2 _ _ _ _ _ [0, 1] dX9_allHooks_28 ⟨rfl, z2_a, z2_b⟩ w (by decide) rfl
      · replace c_3 : z1 < x1 := Int.not_le.mp (fun h => c_3 ((iI_le (Int.le_trans (by decide) x1_a) (Int.le_trans x1_b (by decide)) (Int.le_trans (by decide) z1_a) (Int.le_trans z1_b (by decide))).mpr h))
        refine lv_iload_n hx hb dX9_allHooks_12 rfl (lv_at hl 1 rfl) ?_
        refine lv_aload_n hx hb dX9_allHooks_13 rfl (lv_at hl 2 rfl) ?_
        refine r_get (v := .ref a9) M w 0 8 clX9 rfl (by decide) G384 rfl rfl dX9_allHooks_14 ?_
        refine lv_iload_n hx hb dX9_allHooks_17 rfl (lv_at hl 0 rfl) ?_
        refine r_iald (v := iI (f0 z1)) M w 1 rfl (iI_in (by omega) (by omega) (by decide)) (cI_at (by omega) (by omega)) dX9_allHooks_18 ?_
        have hh4 : (-2147483648) ≤ (f0 z1) ∧ (f0 z1) ≤ 2147483647 := f0_h z1
        refine r_iadd (v := _) M rfl dX9_allHooks_19 ?_
        refine b_any (fun z5 z5_a z5_b => ?_)
        refine lv_istore_n (lv' := [(1, .int (iI z5)), (2, .int (iI z1)), (0, .ref a0)]) hx hb dX9_allHooks_20 rfl hl (by decide) rfl (fun ls hl => ?_)
        refine lv_iinc (v := iI (z1 + 1)) (lv' := [(2, .int (iI (z1 + 1))), (1, .int (iI z5)), (0, .ref a0)]) hx hb dX9_allHooks_21 hl (k := 1) rfl (ii_inc (by decide +kernel)) (by decide) rfl (fun ls hl => ?_)
        refine lv_goto (tgt := 4) hx hb dX9_allHooks_24 (by decide) ?_
        exact ih1 (z1 + 1) z5 _ _ _ (by omega) (by omega) z5_a z5_b (by omega) w (lv_sub hl [0, 1, 2] rfl)
  exact loop1 (((x1 - 0) : Int).toNat + 1) 0 0 _ _ _ (by decide) (by decide) (by decide) (by decide) (Nat.lt_succ_self _) w (lv_sub hl [0, 1, 2] rfl)
