theorem dX8_append_0 : decode cX8_append 0 = .ok (.bipush 24, 2) := by decide +kernel
theorem dX8_append_2 : decode cX8_append 2 = .ok (.istore_n 2, 1) := by decide +kernel
theorem dX8_append_3 : decode cX8_append 3 = .ok (.iload_n 2, 1) := by decide +kernel
theorem dX8_append_4 : decode cX8_append 4 = .ok (.ifCond .lt 45, 3) := by decide +kernel
theorem dX8_append_7 : decode cX8_append 7 = .ok (.aload_n 0, 1) := by decide +kernel
theorem dX8_append_8 : decode cX8_append 8 = .ok (.getfield 15, 3) := by decide +kernel
theorem G162 : Cond.fieldLink "HookedCity$Tape" 15 "HookedCity$Tape" "length" "I" ∈ GW := gw_i 162 (by decide +kernel) rfl
theorem dX8_append_11 : decode cX8_append 11 = .ok (.sipush 940, 3) := by decide +kernel
theorem dX8_append_14 : decode cX8_append 14 = .ok (.if_icmp .ge 35, 3) := by decide +kernel
theorem dX8_append_17 : decode cX8_append 17 = .ok (.aload_n 0, 1) := by decide +kernel
theorem dX8_append_18 : decode cX8_append 18 = .ok (.getfield 11, 3) := by decide +kernel
theorem G160 : Cond.fieldLink "HookedCity$Tape" 11 "HookedCity$Tape" "bytes" "[I" ∈ GW := gw_i 160 (by decide +kernel) rfl
theorem dX8_append_21 : decode cX8_append 21 = .ok (.aload_n 0, 1) := by decide +kernel
theorem dX8_append_22 : decode cX8_append 22 = .ok (.getfield 15, 3) := by decide +kernel
theorem dX8_append_25 : decode cX8_append 25 = .ok (.iload_n 1, 1) := by decide +kernel
theorem dX8_append_26 : decode cX8_append 26 = .ok (.iload_n 2, 1) := by decide +kernel
theorem dX8_append_27 : decode cX8_append 27 = .ok (.iushr, 1) := by decide +kernel
theorem dX8_append_28 : decode cX8_append 28 = .ok (.sipush 255, 3) := by decide +kernel
theorem dX8_append_31 : decode cX8_append 31 = .ok (.iand, 1) := by decide +kernel
theorem dX8_append_32 : decode cX8_append 32 = .ok (.iastore, 1) := by decide +kernel
theorem dX8_append_33 : decode cX8_append 33 = .ok (.aload_n 0, 1) := by decide +kernel
theorem dX8_append_34 : decode cX8_append 34 = .ok (.dup, 1) := by decide +kernel
theorem dX8_append_35 : decode cX8_append 35 = .ok (.getfield 15, 3) := by decide +kernel
theorem dX8_append_38 : decode cX8_append 38 = .ok (.iconst 1, 1) := by decide +kernel
theorem dX8_append_39 : decode cX8_append 39 = .ok (.iadd, 1) := by decide +kernel
theorem dX8_append_40 : decode cX8_append 40 = .ok (.putfield 15, 3) := by decide +kernel
theorem dX8_append_43 : decode cX8_append 43 = .ok (.iinc 2 (-8), 3) := by decide +kernel
theorem dX8_append_46 : decode cX8_append 46 = .ok (.goto (-43), 3) := by decide +kernel
theorem dX8_append_49 : decode cX8_append 49 = .ok (.return_, 1) := by decide +kernel
theorem dX8_take_0 : decode cX8_take 0 = .ok (.aload_n 0, 1) := by decide +kernel
theorem dX8_take_1 : decode cX8_take 1 = .ok (.getfield 15, 3) := by decide +kernel
theorem dX8_take_4 : decode cX8_take 4 = .ok (.bipush 20, 2) := by decide +kernel
theorem dX8_take_6 : decode cX8_take 6 = .ok (.iadd, 1) := by decide +kernel
theorem dX8_take_7 : decode cX8_take 7 = .ok (.sipush 940, 3) := by decide +kernel
theorem dX8_take_10 : decode cX8_take 10 = .ok (.if_icmp .le 5, 3) := by decide +kernel
theorem dX8_take_15 : decode cX8_take 15 = .ok (.aload_n 0, 1) := by decide +kernel
theorem dX8_take_16 : decode cX8_take 16 = .ok (.iload_n 1, 1) := by decide +kernel
theorem dX8_take_17 : decode cX8_take 17 = .ok (.invokevirtual 51, 3) := by decide +kernel
theorem G560 : Cond.code ⟨"HookedCity$Tape", "append", "(I)V"⟩ prog_10_method_3_code 3 none ∈ GW := gw_i 560 (by decide +kernel) rfl
theorem G557 : Cond.methodLink "HookedCity$Tape" 51 ⟨"HookedCity$Tape", "append", "(I)V"⟩ ∈ GW := gw_i 557 (by decide +kernel) rfl
theorem G120 : Cond.initialized "HookedCity$Tape" ∈ GW := gw_i 120 (by decide +kernel) rfl
theorem V_HookedCity_Tape_51 : VL "HookedCity$Tape" 51 yX8_append cX8_append 3 none 1 := ⟨G560, G557, G120, by decide +kernel, by decide +kernel, by decide +kernel⟩
theorem G559 : Cond.instanceMethod ⟨"HookedCity$Tape", "append", "(I)V"⟩ ∈ GW := gw_i 559 (by decide +kernel) rfl
theorem G0 : Cond.selects "HookedCity$Tape" ⟨"HookedCity$Tape", "append", "(I)V"⟩ ⟨"HookedCity$Tape", "append", "(I)V"⟩ ∈ GW := gw_i 0 (by decide +kernel) rfl
theorem dX8_take_20 : decode cX8_take 20 = .ok (.aload_n 0, 1) := by decide +kernel
theorem dX8_take_21 : decode cX8_take 21 = .ok (.iload_n 2, 1) := by decide +kernel
theorem dX8_take_22 : decode cX8_take 22 = .ok (.invokevirtual 51, 3) := by decide +kernel
theorem dX8_take_25 : decode cX8_take 25 = .ok (.aload_n 0, 1) := by decide +kernel
theorem dX8_take_26 : decode cX8_take 26 = .ok (.iload_n 3, 1) := by decide +kernel
theorem dX8_take_27 : decode cX8_take 27 = .ok (.invokevirtual 51, 3) := by decide +kernel
theorem dX8_take_30 : decode cX8_take 30 = .ok (.aload_n 0, 1) := by decide +kernel
theorem dX8_take_31 : decode cX8_take 31 = .ok (.iload 4, 2) := by decide +kernel
theorem dX8_take_33 : decode cX8_take 33 = .ok (.invokevirtual 51, 3) := by decide +kernel
theorem dX8_take_36 : decode cX8_take 36 = .ok (.aload_n 0, 1) := by decide +kernel
theorem dX8_take_37 : decode cX8_take 37 = .ok (.iload 5, 2) := by decide +kernel
theorem dX8_take_39 : decode cX8_take 39 = .ok (.invokevirtual 51, 3) := by decide +kernel
theorem dX8_take_42 : decode cX8_take 42 = .ok (.aload_n 0, 1) := by decide +kernel
theorem dX8_take_43 : decode cX8_take 43 = .ok (.getfield 15, 3) := by decide +kernel
theorem dX8_take_46 : decode cX8_take 46 = .ok (.ireturn, 1) := by decide +kernel
theorem dX8_take_13 : decode cX8_take 13 = .ok (.iconst (-1), 1) := by decide +kernel
theorem dX8_take_14 : decode cX8_take 14 = .ok (.ireturn, 1) := by decide +kernel
theorem dX8_cut_0 : decode cX8_cut 0 = .ok (.iload_n 1, 1) := by decide +kernel
theorem dX8_cut_1 : decode cX8_cut 1 = .ok (.ifCond .lt 11, 3) := by decide +kernel
theorem dX8_cut_12 : decode cX8_cut 12 = .ok (.iconst 0, 1) := by decide +kernel
theorem dX8_cut_13 : decode cX8_cut 13 = .ok (.ireturn, 1) := by decide +kernel
theorem dX8_cut_4 : decode cX8_cut 4 = .ok (.iload_n 1, 1) := by decide +kernel
theorem dX8_cut_5 : decode cX8_cut 5 = .ok (.aload_n 0, 1) := by decide +kernel
theorem dX8_cut_6 : decode cX8_cut 6 = .ok (.getfield 15, 3) := by decide +kernel
theorem dX8_cut_9 : decode cX8_cut 9 = .ok (.if_icmp .le 5, 3) := by decide +kernel
theorem dX8_cut_14 : decode cX8_cut 14 = .ok (.aload_n 0, 1) := by decide +kernel
theorem dX8_cut_15 : decode cX8_cut 15 = .ok (.iload_n 1, 1) := by decide +kernel
theorem dX8_cut_16 : decode cX8_cut 16 = .ok (.putfield 15, 3) := by decide +kernel
theorem dX8_cut_19 : decode cX8_cut 19 = .ok (.iconst 1, 1) := by decide +kernel
theorem dX8_cut_20 : decode cX8_cut 20 = .ok (.ireturn, 1) := by decide +kernel
theorem dX8_empty_0 : decode cX8_empty 0 = .ok (.aload_n 0, 1) := by decide +kernel
theorem dX8_empty_1 : decode cX8_empty 1 = .ok (.iconst 0, 1) := by decide +kernel
theorem dX8_empty_2 : decode cX8_empty 2 = .ok (.putfield 15, 3) := by decide +kernel
theorem dX8_empty_5 : decode cX8_empty 5 = .ok (.return_, 1) := by decide +kernel
theorem dX8_isLetter_0 : decode cX8_isLetter 0 = .ok (.iload_n 0, 1) := by decide +kernel
theorem dX8_isLetter_1 : decode cX8_isLetter 1 = .ok (.bipush 97, 2) := by decide +kernel
theorem dX8_isLetter_3 : decode cX8_isLetter 3 = .ok (.if_icmp .lt 13, 3) := by decide +kernel
theorem dX8_isLetter_16 : decode cX8_isLetter 16 = .ok (.iconst 0, 1) := by decide +kernel
theorem dX8_isLetter_17 : decode cX8_isLetter 17 = .ok (.ireturn, 1) := by decide +kernel
theorem dX8_isLetter_6 : decode cX8_isLetter 6 = .ok (.iload_n 0, 1) := by decide +kernel
theorem dX8_isLetter_7 : decode cX8_isLetter 7 = .ok (.bipush 122, 2) := by decide +kernel
theorem dX8_isLetter_9 : decode cX8_isLetter 9 = .ok (.if_icmp .gt 7, 3) := by decide +kernel
theorem dX8_isLetter_12 : decode cX8_isLetter 12 = .ok (.iconst 1, 1) := by decide +kernel
theorem dX8_isLetter_13 : decode cX8_isLetter 13 = .ok (.goto 4, 3) := by decide +kernel
theorem dX10_spelt_0 : decode cX10_spelt 0 = .ok (.iconst 0, 1) := by decide +kernel
theorem dX10_spelt_1 : decode cX10_spelt 1 = .ok (.istore_n 2, 1) := by decide +kernel
theorem dX10_spelt_2 : decode cX10_spelt 2 = .ok (.iload_n 2, 1) := by decide +kernel
theorem dX10_spelt_3 : decode cX10_spelt 3 = .ok (.getstatic 137, 3) := by decide +kernel
theorem G606 : Cond.fieldLink "HookedCity$Word" 137 "HookedCity$Word" "ALL" "[LHookedCity$Word;" ∈ GW := gw_i 606 (by decide +kernel) rfl
theorem dX10_spelt_6 : decode cX10_spelt 6 = .ok (.arraylength, 1) := by decide +kernel
theorem dX10_spelt_7 : decode cX10_spelt 7 = .ok (.if_icmp .ge 28, 3) := by decide +kernel
theorem dX10_spelt_35 : decode cX10_spelt 35 = .ok (.aconst_null, 1) := by decide +kernel
theorem dX10_spelt_36 : decode cX10_spelt 36 = .ok (.areturn, 1) := by decide +kernel
theorem dX10_spelt_10 : decode cX10_spelt 10 = .ok (.getstatic 137, 3) := by decide +kernel
theorem dX10_spelt_13 : decode cX10_spelt 13 = .ok (.iload_n 2, 1) := by decide +kernel
theorem dX10_spelt_14 : decode cX10_spelt 14 = .ok (.aaload, 1) := by decide +kernel
theorem dX10_spelt_15 : decode cX10_spelt 15 = .ok (.getfield 113, 3) := by decide +kernel
theorem G2084 : Cond.fieldLink "HookedCity$Word" 113 "HookedCity$Word" "letters" "J" ∈ GW := gw_i 2084 (by decide +kernel) rfl
theorem dX10_spelt_18 : decode cX10_spelt 18 = .ok (.lload_n 0, 1) := by decide +kernel
theorem dX10_spelt_19 : decode cX10_spelt 19 = .ok (.lcmp, 1) := by decide +kernel
theorem dX10_spelt_20 : decode cX10_spelt 20 = .ok (.ifCond .ne 9, 3) := by decide +kernel
theorem dX10_spelt_29 : decode cX10_spelt 29 = .ok (.iinc 2 1, 3) := by decide +kernel
theorem dX10_spelt_32 : decode cX10_spelt 32 = .ok (.goto (-30), 3) := by decide +kernel
theorem dX10_spelt_23 : decode cX10_spelt 23 = .ok (.getstatic 137, 3) := by decide +kernel
theorem dX10_spelt_26 : decode cX10_spelt 26 = .ok (.iload_n 2, 1) := by decide +kernel
theorem dX10_spelt_27 : decode cX10_spelt 27 = .ok (.aaload, 1) := by decide +kernel
theorem dX10_spelt_28 : decode cX10_spelt 28 = .ok (.areturn, 1) := by decide +kernel
theorem dX8_isDigit_0 : decode cX8_isDigit 0 = .ok (.iload_n 0, 1) := by decide +kernel
theorem dX8_isDigit_1 : decode cX8_isDigit 1 = .ok (.bipush 48, 2) := by decide +kernel
theorem dX8_isDigit_3 : decode cX8_isDigit 3 = .ok (.if_icmp .lt 13, 3) := by decide +kernel
theorem dX8_isDigit_16 : decode cX8_isDigit 16 = .ok (.iconst 0, 1) := by decide +kernel
theorem dX8_isDigit_17 : decode cX8_isDigit 17 = .ok (.ireturn, 1) := by decide +kernel
theorem dX8_isDigit_6 : decode cX8_isDigit 6 = .ok (.iload_n 0, 1) := by decide +kernel
theorem dX8_isDigit_7 : decode cX8_isDigit 7 = .ok (.bipush 57, 2) := by decide +kernel
theorem dX8_isDigit_9 : decode cX8_isDigit 9 = .ok (.if_icmp .gt 7, 3) := by decide +kernel
theorem dX8_isDigit_12 : decode cX8_isDigit 12 = .ok (.iconst 1, 1) := by decide +kernel
theorem dX8_isDigit_13 : decode cX8_isDigit 13 = .ok (.goto 4, 3) := by decide +kernel
theorem dX8_longer_0 : decode cX8_longer 0 = .ok (.lload_n 0, 1) := by decide +kernel
theorem dX8_longer_1 : decode cX8_longer 1 = .ok (.iconst 5, 1) := by decide +kernel
theorem dX8_longer_2 : decode cX8_longer 2 = .ok (.lshl, 1) := by decide +kernel
theorem dX8_longer_3 : decode cX8_longer 3 = .ok (.iload_n 2, 1) := by decide +kernel
theorem dX8_longer_4 : decode cX8_longer 4 = .ok (.bipush 97, 2) := by decide +kernel
theorem dX8_longer_6 : decode cX8_longer 6 = .ok (.isub, 1) := by decide +kernel
theorem dX8_longer_7 : decode cX8_longer 7 = .ok (.iconst 1, 1) := by decide +kernel
theorem dX8_longer_8 : decode cX8_longer 8 = .ok (.iadd, 1) := by decide +kernel
theorem dX8_longer_9 : decode cX8_longer 9 = .ok (.i2l, 1) := by decide +kernel
theorem dX8_longer_10 : decode cX8_longer 10 = .ok (.lor, 1) := by decide +kernel
theorem dX8_longer_11 : decode cX8_longer 11 = .ok (.lreturn, 1) := by decide +kernel
theorem dX8_readRun_0 : decode cX8_readRun 0 = .ok (.iconst 0, 1) := by decide +kernel
theorem dX8_readRun_1 : decode cX8_readRun 1 = .ok (.istore_n 1, 1) := by decide +kernel
theorem dX8_readRun_2 : decode cX8_readRun 2 = .ok (.iconst 0, 1) := by decide +kernel
theorem dX8_readRun_3 : decode cX8_readRun 3 = .ok (.istore_n 2, 1) := by decide +kernel
theorem dX8_readRun_4 : decode cX8_readRun 4 = .ok (.aload_n 0, 1) := by decide +kernel
theorem dX8_readRun_5 : decode cX8_readRun 5 = .ok (.lconst 0, 1) := by decide +kernel
theorem dX8_readRun_6 : decode cX8_readRun 6 = .ok (.putfield 35, 3) := by decide +kernel
theorem G174 : Cond.fieldLink "HookedCity$Tape" 35 "HookedCity$Tape" "name" "J" ∈ GW := gw_i 174 (by decide +kernel) rfl
theorem dX8_readRun_9 : decode cX8_readRun 9 = .ok (.aload_n 0, 1) := by decide +kernel
theorem dX8_readRun_10 : decode cX8_readRun 10 = .ok (.iconst 0, 1) := by decide +kernel
theorem dX8_readRun_11 : decode cX8_readRun 11 = .ok (.putfield 39, 3) := by decide +kernel
theorem G176 : Cond.fieldLink "HookedCity$Tape" 39 "HookedCity$Tape" "number" "I" ∈ GW := gw_i 176 (by decide +kernel) rfl
theorem dX8_readRun_14 : decode cX8_readRun 14 = .ok (.aload_n 0, 1) := by decide +kernel
theorem dX8_readRun_15 : decode cX8_readRun 15 = .ok (.getfield 22, 3) := by decide +kernel
theorem G166 : Cond.fieldLink "HookedCity$Tape" 22 "HookedCity$Tape" "next" "I" ∈ GW := gw_i 166 (by decide +kernel) rfl
theorem dX8_readRun_18 : decode cX8_readRun 18 = .ok (.aload_n 0, 1) := by decide +kernel
theorem dX8_readRun_19 : decode cX8_readRun 19 = .ok (.getfield 15, 3) := by decide +kernel
theorem dX8_readRun_22 : decode cX8_readRun 22 = .ok (.if_icmp .ge 77, 3) := by decide +kernel
theorem dX8_readRun_99 : decode cX8_readRun 99 = .ok (.aload_n 0, 1) := by decide +kernel
theorem dX8_readRun_100 : decode cX8_readRun 100 = .ok (.iconst 1, 1) := by decide +kernel
theorem dX8_readRun_101 : decode cX8_readRun 101 = .ok (.putfield 28, 3) := by decide +kernel
theorem G168 : Cond.fieldLink "HookedCity$Tape" 28 "HookedCity$Tape" "token" "I" ∈ GW := gw_i 168 (by decide +kernel) rfl
theorem dX8_readRun_104 : decode cX8_readRun 104 = .ok (.iload_n 2, 1) := by decide +kernel
theorem dX8_readRun_105 : decode cX8_readRun 105 = .ok (.ifCond .ne 39, 3) := by decide +kernel
theorem dX8_readRun_144 : decode cX8_readRun 144 = .ok (.iload_n 1, 1) := by decide +kernel
theorem dX8_readRun_145 : decode cX8_readRun 145 = .ok (.ifCond .ne 13, 3) := by decide +kernel
theorem dX8_readRun_158 : decode cX8_readRun 158 = .ok (.return_, 1) := by decide +kernel
theorem dX8_readRun_148 : decode cX8_readRun 148 = .ok (.iload_n 2, 1) := by decide +kernel
theorem dX8_readRun_149 : decode cX8_readRun 149 = .ok (.iconst 3, 1) := by decide +kernel
theorem dX8_readRun_150 : decode cX8_readRun 150 = .ok (.if_icmp .gt 8, 3) := by decide +kernel
theorem dX8_readRun_153 : decode cX8_readRun 153 = .ok (.aload_n 0, 1) := by decide +kernel
theorem dX8_readRun_154 : decode cX8_readRun 154 = .ok (.iconst 4, 1) := by decide +kernel
theorem dX8_readRun_155 : decode cX8_readRun 155 = .ok (.putfield 28, 3) := by decide +kernel
theorem dX8_readRun_108 : decode cX8_readRun 108 = .ok (.iload_n 1, 1) := by decide +kernel
theorem dX8_readRun_109 : decode cX8_readRun 109 = .ok (.bipush 7, 2) := by decide +kernel
theorem dX8_readRun_111 : decode cX8_readRun 111 = .ok (.if_icmp .gt 33, 3) := by decide +kernel
theorem dX8_readRun_114 : decode cX8_readRun 114 = .ok (.aload_n 0, 1) := by decide +kernel
theorem dX8_readRun_115 : decode cX8_readRun 115 = .ok (.aload_n 0, 1) := by decide +kernel
theorem dX8_readRun_116 : decode cX8_readRun 116 = .ok (.getfield 35, 3) := by decide +kernel
theorem dX8_readRun_119 : decode cX8_readRun 119 = .ok (.invokestatic 80, 3) := by decide +kernel
theorem G605 : Cond.code ⟨"HookedCity$Word", "spelt", "(J)LHookedCity$Word;"⟩ prog_12_method_6_code 3 (some (.object "HookedCity$Word")) ∈ GW := gw_i 605 (by decide +kernel) rfl
theorem G603 : Cond.methodLink "HookedCity$Tape" 80 ⟨"HookedCity$Word", "spelt", "(J)LHookedCity$Word;"⟩ ∈ GW := gw_i 603 (by decide +kernel) rfl
theorem G133 : Cond.initialized "HookedCity$Word" ∈ GW := gw_i 133 (by decide +kernel) rfl
theorem V_HookedCity_Tape_80 : VL "HookedCity$Tape" 80 yX10_spelt cX10_spelt 3 (some (.object "HookedCity$Word")) 1 := ⟨G605, G603, G133, by decide +kernel, by decide +kernel, by decide +kernel⟩
theorem G604 : Cond.static ⟨"HookedCity$Word", "spelt", "(J)LHookedCity$Word;"⟩ ∈ GW := gw_i 604 (by decide +kernel) rfl
theorem dX8_readRun_122 : decode cX8_readRun 122 = .ok (.putfield 31, 3) := by decide +kernel
theorem G170 : Cond.fieldLink "HookedCity$Tape" 31 "HookedCity$Tape" "word" "LHookedCity$Word;" ∈ GW := gw_i 170 (by decide +kernel) rfl
theorem dX8_readRun_125 : decode cX8_readRun 125 = .ok (.aload_n 0, 1) := by decide +kernel
theorem dX8_readRun_126 : decode cX8_readRun 126 = .ok (.aload_n 0, 1) := by decide +kernel
theorem dX8_readRun_127 : decode cX8_readRun 127 = .ok (.getfield 31, 3) := by decide +kernel
theorem dX8_readRun_130 : decode cX8_readRun 130 = .ok (.ifnonnull 7, 3) := by decide +kernel
theorem dX8_readRun_133 : decode cX8_readRun 133 = .ok (.iconst 3, 1) := by decide +kernel
theorem dX8_readRun_134 : decode cX8_readRun 134 = .ok (.goto 4, 3) := by decide +kernel
theorem dX8_readRun_138 : decode cX8_readRun 138 = .ok (.putfield 28, 3) := by decide +kernel
theorem dX8_readRun_141 : decode cX8_readRun 141 = .ok (.goto 17, 3) := by decide +kernel
theorem dX8_readRun_137 : decode cX8_readRun 137 = .ok (.iconst 2, 1) := by decide +kernel
theorem dX8_readRun_25 : decode cX8_readRun 25 = .ok (.aload_n 0, 1) := by decide +kernel
theorem dX8_readRun_26 : decode cX8_readRun 26 = .ok (.getfield 11, 3) := by decide +kernel
theorem dX8_readRun_29 : decode cX8_readRun 29 = .ok (.aload_n 0, 1) := by decide +kernel
theorem dX8_readRun_30 : decode cX8_readRun 30 = .ok (.getfield 22, 3) := by decide +kernel
theorem dX8_readRun_33 : decode cX8_readRun 33 = .ok (.iaload, 1) := by decide +kernel
theorem dX8_readRun_34 : decode cX8_readRun 34 = .ok (.istore_n 3, 1) := by decide +kernel
theorem dX8_readRun_35 : decode cX8_readRun 35 = .ok (.iload_n 3, 1) := by decide +kernel
theorem dX8_readRun_36 : decode cX8_readRun 36 = .ok (.invokestatic 58, 3) := by decide +kernel
theorem G592 : Cond.code ⟨"HookedCity$Tape", "isLetter", "(I)Z"⟩ prog_10_method_11_code 1 (some .boolean) ∈ GW := gw_i 592 (by decide +kernel) rfl
theorem G590 : Cond.methodLink "HookedCity$Tape" 58 ⟨"HookedCity$Tape", "isLetter", "(I)Z"⟩ ∈ GW := gw_i 590 (by decide +kernel) rfl
theorem V_HookedCity_Tape_58 : VL "HookedCity$Tape" 58 yX8_isLetter cX8_isLetter 1 (some .boolean) 1 := ⟨G592, G590, G120, by decide +kernel, by decide +kernel, by decide +kernel⟩
theorem G591 : Cond.static ⟨"HookedCity$Tape", "isLetter", "(I)Z"⟩ ∈ GW := gw_i 591 (by decide +kernel) rfl
theorem dX8_readRun_39 : decode cX8_readRun 39 = .ok (.ifCond .eq 21, 3) := by decide +kernel
theorem dX8_readRun_60 : decode cX8_readRun 60 = .ok (.iload_n 3, 1) := by decide +kernel
theorem dX8_readRun_61 : decode cX8_readRun 61 = .ok (.invokestatic 62, 3) := by decide +kernel
theorem G595 : Cond.code ⟨"HookedCity$Tape", "isDigit", "(I)Z"⟩ prog_10_method_12_code 1 (some .boolean) ∈ GW := gw_i 595 (by decide +kernel) rfl
theorem G593 : Cond.methodLink "HookedCity$Tape" 62 ⟨"HookedCity$Tape", "isDigit", "(I)Z"⟩ ∈ GW := gw_i 593 (by decide +kernel) rfl
theorem V_HookedCity_Tape_62 : VL "HookedCity$Tape" 62 yX8_isDigit cX8_isDigit 1 (some .boolean) 1 := ⟨G595, G593, G120, by decide +kernel, by decide +kernel, by decide +kernel⟩
theorem G594 : Cond.static ⟨"HookedCity$Tape", "isDigit", "(I)Z"⟩ ∈ GW := gw_i 594 (by decide +kernel) rfl
theorem dX8_readRun_64 : decode cX8_readRun 64 = .ok (.ifCond .eq 35, 3) := by decide +kernel
theorem dX8_readRun_67 : decode cX8_readRun 67 = .ok (.iinc 2 1, 3) := by decide +kernel
theorem dX8_readRun_70 : decode cX8_readRun 70 = .ok (.aload_n 0, 1) := by decide +kernel
theorem dX8_readRun_71 : decode cX8_readRun 71 = .ok (.aload_n 0, 1) := by decide +kernel
theorem dX8_readRun_72 : decode cX8_readRun 72 = .ok (.getfield 39, 3) := by decide +kernel
theorem dX8_readRun_75 : decode cX8_readRun 75 = .ok (.bipush 10, 2) := by decide +kernel
theorem dX8_readRun_77 : decode cX8_readRun 77 = .ok (.imul, 1) := by decide +kernel
theorem dX8_readRun_78 : decode cX8_readRun 78 = .ok (.iload_n 3, 1) := by decide +kernel
theorem dX8_readRun_79 : decode cX8_readRun 79 = .ok (.iadd, 1) := by decide +kernel
theorem dX8_readRun_80 : decode cX8_readRun 80 = .ok (.bipush 48, 2) := by decide +kernel
theorem dX8_readRun_82 : decode cX8_readRun 82 = .ok (.isub, 1) := by decide +kernel
theorem dX8_readRun_83 : decode cX8_readRun 83 = .ok (.putfield 39, 3) := by decide +kernel
theorem dX8_readRun_86 : decode cX8_readRun 86 = .ok (.aload_n 0, 1) := by decide +kernel
theorem dX8_readRun_87 : decode cX8_readRun 87 = .ok (.dup, 1) := by decide +kernel
theorem dX8_readRun_88 : decode cX8_readRun 88 = .ok (.getfield 22, 3) := by decide +kernel
theorem dX8_readRun_91 : decode cX8_readRun 91 = .ok (.iconst 1, 1) := by decide +kernel
theorem dX8_readRun_92 : decode cX8_readRun 92 = .ok (.iadd, 1) := by decide +kernel
theorem dX8_readRun_93 : decode cX8_readRun 93 = .ok (.putfield 22, 3) := by decide +kernel
theorem dX8_readRun_96 : decode cX8_readRun 96 = .ok (.goto (-82), 3) := by decide +kernel
theorem dX8_readRun_42 : decode cX8_readRun 42 = .ok (.iinc 1 1, 3) := by decide +kernel
theorem dX8_readRun_45 : decode cX8_readRun 45 = .ok (.aload_n 0, 1) := by decide +kernel
theorem dX8_readRun_46 : decode cX8_readRun 46 = .ok (.aload_n 0, 1) := by decide +kernel
theorem dX8_readRun_47 : decode cX8_readRun 47 = .ok (.getfield 35, 3) := by decide +kernel
theorem dX8_readRun_50 : decode cX8_readRun 50 = .ok (.iload_n 3, 1) := by decide +kernel
theorem dX8_readRun_51 : decode cX8_readRun 51 = .ok (.invokestatic 76, 3) := by decide +kernel
theorem G602 : Cond.code ⟨"HookedCity$Tape", "longer", "(JI)J"⟩ prog_10_method_9_code 3 (some .long) ∈ GW := gw_i 602 (by decide +kernel) rfl
theorem G600 : Cond.methodLink "HookedCity$Tape" 76 ⟨"HookedCity$Tape", "longer", "(JI)J"⟩ ∈ GW := gw_i 600 (by decide +kernel) rfl
theorem V_HookedCity_Tape_76 : VL "HookedCity$Tape" 76 yX8_longer cX8_longer 3 (some .long) 2 := ⟨G602, G600, G120, by decide +kernel, by decide +kernel, by decide +kernel⟩
theorem G601 : Cond.static ⟨"HookedCity$Tape", "longer", "(JI)J"⟩ ∈ GW := gw_i 601 (by decide +kernel) rfl
theorem dX8_readRun_54 : decode cX8_readRun 54 = .ok (.putfield 35, 3) := by decide +kernel
theorem dX8_readRun_57 : decode cX8_readRun 57 = .ok (.goto 29, 3) := by decide +kernel
theorem dJ0_isLatin1_aae02_0 : decode cJ0_isLatin1_aae02 0 = .ok (.getstatic 38, 3) := by decide +kernel
theorem G621 : Cond.fieldLink "java/lang/String" 38 "java/lang/String" "COMPACT_STRINGS" "Z" ∈ GW := gw_i 621 (by decide +kernel) rfl
theorem dJ0_isLatin1_aae02_3 : decode cJ0_isLatin1_aae02 3 = .ok (.ifCond .eq 14, 3) := by decide +kernel
theorem dJ0_isLatin1_aae02_6 : decode cJ0_isLatin1_aae02 6 = .ok (.aload_n 0, 1) := by decide +kernel
theorem dJ0_isLatin1_aae02_7 : decode cJ0_isLatin1_aae02 7 = .ok (.getfield 15, 3) := by decide +kernel
theorem G2085 : Cond.fieldLink "java/lang/String" 15 "java/lang/String" "coder" "B" ∈ GW := gw_i 2085 (by decide +kernel) rfl
theorem dJ0_isLatin1_aae02_10 : decode cJ0_isLatin1_aae02 10 = .ok (.ifCond .ne 7, 3) := by decide +kernel
theorem dJ0_isLatin1_aae02_13 : decode cJ0_isLatin1_aae02 13 = .ok (.iconst 1, 1) := by decide +kernel
theorem dJ0_isLatin1_aae02_14 : decode cJ0_isLatin1_aae02 14 = .ok (.goto 4, 3) := by decide +kernel
theorem dJ0_isLatin1_aae02_18 : decode cJ0_isLatin1_aae02 18 = .ok (.ireturn, 1) := by decide +kernel
theorem dJ0_coder_7d493_0 : decode cJ0_coder_7d493 0 = .ok (.getstatic 38, 3) := by decide +kernel
theorem dJ0_coder_7d493_3 : decode cJ0_coder_7d493 3 = .ok (.ifCond .eq 10, 3) := by decide +kernel
theorem dJ0_coder_7d493_6 : decode cJ0_coder_7d493 6 = .ok (.aload_n 0, 1) := by decide +kernel
theorem dJ0_coder_7d493_7 : decode cJ0_coder_7d493 7 = .ok (.getfield 15, 3) := by decide +kernel
theorem dJ0_coder_7d493_10 : decode cJ0_coder_7d493 10 = .ok (.goto 4, 3) := by decide +kernel
theorem dJ0_coder_7d493_14 : decode cJ0_coder_7d493 14 = .ok (.ireturn, 1) := by decide +kernel
theorem dJ0_length_8abf5_0 : decode cJ0_length_8abf5 0 = .ok (.aload_n 0, 1) := by decide +kernel
theorem dJ0_length_8abf5_1 : decode cJ0_length_8abf5 1 = .ok (.getfield 9, 3) := by decide +kernel
theorem G2086 : Cond.fieldLink "java/lang/String" 9 "java/lang/String" "value" "[B" ∈ GW := gw_i 2086 (by decide +kernel) rfl
theorem dJ0_length_8abf5_4 : decode cJ0_length_8abf5 4 = .ok (.arraylength, 1) := by decide +kernel
theorem dJ0_length_8abf5_5 : decode cJ0_length_8abf5 5 = .ok (.aload_n 0, 1) := by decide +kernel
theorem dJ0_length_8abf5_6 : decode cJ0_length_8abf5 6 = .ok (.invokevirtual 335, 3) := by decide +kernel
theorem G630 : Cond.code ⟨"java/lang/String", "coder", "()B"⟩ prog_24_method_152_code 1 (some .byte) ∈ GW := gw_i 630 (by decide +kernel) rfl
theorem G627 : Cond.methodLink "java/lang/String" 335 ⟨"java/lang/String", "coder", "()B"⟩ ∈ GW := gw_i 627 (by decide +kernel) rfl
theorem G134 : Cond.initialized "java/lang/String" ∈ GW := gw_i 134 (by decide +kernel) rfl
theorem V_java_lang_String_335 : VL "java/lang/String" 335 yJ0_coder_7d493 cJ0_coder_7d493 1 (some .byte) 0 := ⟨G630, G627, G134, by decide +kernel, by decide +kernel, by decide +kernel⟩
theorem G628 : Cond.instanceMethod ⟨"java/lang/String", "coder", "()B"⟩ ∈ GW := gw_i 628 (by decide +kernel) rfl
theorem G629 : Cond.selects "java/lang/String" ⟨"java/lang/String", "coder", "()B"⟩ ⟨"java/lang/String", "coder", "()B"⟩ ∈ GW := gw_i 629 (by decide +kernel) rfl
theorem dJ0_length_8abf5_9 : decode cJ0_length_8abf5 9 = .ok (.ishr, 1) := by decide +kernel
theorem dJ0_length_8abf5_10 : decode cJ0_length_8abf5 10 = .ok (.ireturn, 1) := by decide +kernel
theorem dJ1_canEncode_9a6ad_0 : decode cJ1_canEncode_9a6ad 0 = .ok (.iload_n 0, 1) := by decide +kernel
theorem dJ1_canEncode_9a6ad_1 : decode cJ1_canEncode_9a6ad 1 = .ok (.ifCond .lt 14, 3) := by decide +kernel
theorem dJ1_canEncode_9a6ad_4 : decode cJ1_canEncode_9a6ad 4 = .ok (.iload_n 0, 1) := by decide +kernel
theorem dJ1_canEncode_9a6ad_5 : decode cJ1_canEncode_9a6ad 5 = .ok (.sipush 255, 3) := by decide +kernel
theorem dJ1_canEncode_9a6ad_8 : decode cJ1_canEncode_9a6ad 8 = .ok (.if_icmp .gt 7, 3) := by decide +kernel
theorem dJ1_canEncode_9a6ad_11 : decode cJ1_canEncode_9a6ad 11 = .ok (.iconst 1, 1) := by decide +kernel
theorem dJ1_canEncode_9a6ad_12 : decode cJ1_canEncode_9a6ad 12 = .ok (.goto 4, 3) := by decide +kernel
theorem dJ1_canEncode_9a6ad_16 : decode cJ1_canEncode_9a6ad 16 = .ok (.ireturn, 1) := by decide +kernel
theorem dJ1_indexOfChar_4cfef_0 : decode cJ1_indexOfChar_4cfef 0 = .ok (.iload_n 1, 1) := by decide +kernel
theorem dJ1_indexOfChar_4cfef_1 : decode cJ1_indexOfChar_4cfef 1 = .ok (.i2b, 1) := by decide +kernel
theorem dJ1_indexOfChar_4cfef_2 : decode cJ1_indexOfChar_4cfef 2 = .ok (.istore 4, 2) := by decide +kernel
theorem dJ1_indexOfChar_4cfef_4 : decode cJ1_indexOfChar_4cfef 4 = .ok (.iload_n 2, 1) := by decide +kernel
theorem dJ1_indexOfChar_4cfef_5 : decode cJ1_indexOfChar_4cfef 5 = .ok (.istore 5, 2) := by decide +kernel
theorem dJ1_indexOfChar_4cfef_7 : decode cJ1_indexOfChar_4cfef 7 = .ok (.iload 5, 2) := by decide +kernel
theorem dJ1_indexOfChar_4cfef_9 : decode cJ1_indexOfChar_4cfef 9 = .ok (.iload_n 3, 1) := by decide +kernel
theorem dJ1_indexOfChar_4cfef_10 : decode cJ1_indexOfChar_4cfef 10 = .ok (.if_icmp .ge 21, 3) := by decide +kernel
theorem dJ1_indexOfChar_4cfef_13 : decode cJ1_indexOfChar_4cfef 13 = .ok (.aload_n 0, 1) := by decide +kernel
theorem dJ1_indexOfChar_4cfef_14 : decode cJ1_indexOfChar_4cfef 14 = .ok (.iload 5, 2) := by decide +kernel
theorem dJ1_indexOfChar_4cfef_16 : decode cJ1_indexOfChar_4cfef 16 = .ok (.baload, 1) := by decide +kernel
theorem dJ1_indexOfChar_4cfef_17 : decode cJ1_indexOfChar_4cfef 17 = .ok (.iload 4, 2) := by decide +kernel
theorem dJ1_indexOfChar_4cfef_19 : decode cJ1_indexOfChar_4cfef 19 = .ok (.if_icmp .ne 6, 3) := by decide +kernel
theorem dJ1_indexOfChar_4cfef_25 : decode cJ1_indexOfChar_4cfef 25 = .ok (.iinc 5 1, 3) := by decide +kernel
theorem dJ1_indexOfChar_4cfef_28 : decode cJ1_indexOfChar_4cfef 28 = .ok (.goto (-21), 3) := by decide +kernel
theorem dJ1_indexOfChar_4cfef_31 : decode cJ1_indexOfChar_4cfef 31 = .ok (.iconst (-1), 1) := by decide +kernel
theorem dJ1_indexOfChar_4cfef_32 : decode cJ1_indexOfChar_4cfef 32 = .ok (.ireturn, 1) := by decide +kernel
theorem dJ1_indexOfChar_4cfef_22 : decode cJ1_indexOfChar_4cfef 22 = .ok (.iload 5, 2) := by decide +kernel
theorem dJ1_indexOfChar_4cfef_24 : decode cJ1_indexOfChar_4cfef 24 = .ok (.ireturn, 1) := by decide +kernel
theorem dJ1_indexOf_4cfef_0 : decode cJ1_indexOf_4cfef 0 = .ok (.iload_n 1, 1) := by decide +kernel
theorem dJ1_indexOf_4cfef_1 : decode cJ1_indexOf_4cfef 1 = .ok (.invokestatic 88, 3) := by decide +kernel
theorem G636 : Cond.code ⟨"java/lang/StringLatin1", "canEncode", "(I)Z"⟩ prog_25_method_4_code 1 (some .boolean) ∈ GW := gw_i 636 (by decide +kernel) rfl
theorem G634 : Cond.methodLink "java/lang/StringLatin1" 88 ⟨"java/lang/StringLatin1", "canEncode", "(I)Z"⟩ ∈ GW := gw_i 634 (by decide +kernel) rfl
theorem G135 : Cond.initialized "java/lang/StringLatin1" ∈ GW := gw_i 135 (by decide +kernel) rfl
theorem V_java_lang_StringLatin1_88 : VL "java/lang/StringLatin1" 88 yJ1_canEncode_9a6ad cJ1_canEncode_9a6ad 1 (some .boolean) 1 := ⟨G636, G634, G135, by decide +kernel, by decide +kernel, by decide +kernel⟩
theorem G635 : Cond.static ⟨"java/lang/StringLatin1", "canEncode", "(I)Z"⟩ ∈ GW := gw_i 635 (by decide +kernel) rfl
theorem dJ1_indexOf_4cfef_4 : decode cJ1_indexOf_4cfef 4 = .ok (.ifCond .ne 5, 3) := by decide +kernel
theorem dJ1_indexOf_4cfef_9 : decode cJ1_indexOf_4cfef 9 = .ok (.iload_n 2, 1) := by decide +kernel
theorem dJ1_indexOf_4cfef_10 : decode cJ1_indexOf_4cfef 10 = .ok (.iconst 0, 1) := by decide +kernel
theorem dJ1_indexOf_4cfef_11 : decode cJ1_indexOf_4cfef 11 = .ok (.invokestatic 92, 3) := by decide +kernel
theorem G637 : Cond.methodLink "java/lang/StringLatin1" 92 ⟨"java/lang/Math", "max", "(II)I"⟩ ∈ GW := gw_i 637 (by decide +kernel) rfl
theorem G638 : Cond.static ⟨"java/lang/Math", "max", "(II)I"⟩ ∈ GW := gw_i 638 (by decide +kernel) rfl
theorem G136 : Cond.initialized "java/lang/Math" ∈ GW := gw_i 136 (by decide +kernel) rfl
theorem G639 : Cond.code ⟨"java/lang/Math", "max", "(II)I"⟩ prog_22_method_65_code 2 (some .int) ∈ GW := gw_i 639 (by decide +kernel) rfl
theorem dJ1_indexOf_4cfef_14 : decode cJ1_indexOf_4cfef 14 = .ok (.istore_n 2, 1) := by decide +kernel
theorem dJ1_indexOf_4cfef_15 : decode cJ1_indexOf_4cfef 15 = .ok (.iload_n 3, 1) := by decide +kernel
theorem dJ1_indexOf_4cfef_16 : decode cJ1_indexOf_4cfef 16 = .ok (.aload_n 0, 1) := by decide +kernel
theorem dJ1_indexOf_4cfef_17 : decode cJ1_indexOf_4cfef 17 = .ok (.arraylength, 1) := by decide +kernel
theorem dJ1_indexOf_4cfef_18 : decode cJ1_indexOf_4cfef 18 = .ok (.invokestatic 38, 3) := by decide +kernel
theorem G640 : Cond.methodLink "java/lang/StringLatin1" 38 ⟨"java/lang/Math", "min", "(II)I"⟩ ∈ GW := gw_i 640 (by decide +kernel) rfl
theorem G641 : Cond.static ⟨"java/lang/Math", "min", "(II)I"⟩ ∈ GW := gw_i 641 (by decide +kernel) rfl
theorem G642 : Cond.code ⟨"java/lang/Math", "min", "(II)I"⟩ prog_22_method_69_code 2 (some .int) ∈ GW := gw_i 642 (by decide +kernel) rfl
theorem dJ1_indexOf_4cfef_21 : decode cJ1_indexOf_4cfef 21 = .ok (.istore_n 3, 1) := by decide +kernel
theorem dJ1_indexOf_4cfef_22 : decode cJ1_indexOf_4cfef 22 = .ok (.iload_n 2, 1) := by decide +kernel
theorem dJ1_indexOf_4cfef_23 : decode cJ1_indexOf_4cfef 23 = .ok (.iload_n 3, 1) := by decide +kernel
theorem dJ1_indexOf_4cfef_24 : decode cJ1_indexOf_4cfef 24 = .ok (.if_icmp .lt 5, 3) := by decide +kernel
theorem dJ1_indexOf_4cfef_29 : decode cJ1_indexOf_4cfef 29 = .ok (.aload_n 0, 1) := by decide +kernel
theorem dJ1_indexOf_4cfef_30 : decode cJ1_indexOf_4cfef 30 = .ok (.iload_n 1, 1) := by decide +kernel
theorem dJ1_indexOf_4cfef_31 : decode cJ1_indexOf_4cfef 31 = .ok (.iload_n 2, 1) := by decide +kernel
theorem dJ1_indexOf_4cfef_32 : decode cJ1_indexOf_4cfef 32 = .ok (.iload_n 3, 1) := by decide +kernel
theorem dJ1_indexOf_4cfef_33 : decode cJ1_indexOf_4cfef 33 = .ok (.invokestatic 95, 3) := by decide +kernel
theorem G645 : Cond.code ⟨"java/lang/StringLatin1", "indexOfChar", "([BIII)I"⟩ prog_25_method_23_code 6 (some .int) ∈ GW := gw_i 645 (by decide +kernel) rfl
theorem G643 : Cond.methodLink "java/lang/StringLatin1" 95 ⟨"java/lang/StringLatin1", "indexOfChar", "([BIII)I"⟩ ∈ GW := gw_i 643 (by decide +kernel) rfl
theorem V_java_lang_StringLatin1_95 : VL "java/lang/StringLatin1" 95 yJ1_indexOfChar_4cfef cJ1_indexOfChar_4cfef 6 (some .int) 4 := ⟨G645, G643, G135, by decide +kernel, by decide +kernel, by decide +kernel⟩
theorem G644 : Cond.static ⟨"java/lang/StringLatin1", "indexOfChar", "([BIII)I"⟩ ∈ GW := gw_i 644 (by decide +kernel) rfl
theorem dJ1_indexOf_4cfef_36 : decode cJ1_indexOf_4cfef 36 = .ok (.ireturn, 1) := by decide +kernel
theorem dJ0_indexOf_7cf53_0 : decode cJ0_indexOf_7cf53 0 = .ok (.aload_n 0, 1) := by decide +kernel
theorem dJ0_indexOf_7cf53_1 : decode cJ0_indexOf_7cf53 1 = .ok (.invokevirtual 492, 3) := by decide +kernel
theorem G620 : Cond.code ⟨"java/lang/String", "isLatin1", "()Z"⟩ prog_24_method_154_code 1 (some .boolean) ∈ GW := gw_i 620 (by decide +kernel) rfl
theorem G617 : Cond.methodLink "java/lang/String" 492 ⟨"java/lang/String", "isLatin1", "()Z"⟩ ∈ GW := gw_i 617 (by decide +kernel) rfl
theorem V_java_lang_String_492 : VL "java/lang/String" 492 yJ0_isLatin1_aae02 cJ0_isLatin1_aae02 1 (some .boolean) 0 := ⟨G620, G617, G134, by decide +kernel, by decide +kernel, by decide +kernel⟩
theorem G618 : Cond.instanceMethod ⟨"java/lang/String", "isLatin1", "()Z"⟩ ∈ GW := gw_i 618 (by decide +kernel) rfl
theorem G619 : Cond.selects "java/lang/String" ⟨"java/lang/String", "isLatin1", "()Z"⟩ ⟨"java/lang/String", "isLatin1", "()Z"⟩ ∈ GW := gw_i 619 (by decide +kernel) rfl
theorem dJ0_indexOf_7cf53_4 : decode cJ0_indexOf_7cf53 4 = .ok (.ifCond .eq 19, 3) := by decide +kernel
theorem dJ0_indexOf_7cf53_7 : decode cJ0_indexOf_7cf53 7 = .ok (.aload_n 0, 1) := by decide +kernel
theorem dJ0_indexOf_7cf53_8 : decode cJ0_indexOf_7cf53 8 = .ok (.getfield 9, 3) := by decide +kernel
theorem dJ0_indexOf_7cf53_11 : decode cJ0_indexOf_7cf53 11 = .ok (.iload_n 1, 1) := by decide +kernel
theorem dJ0_indexOf_7cf53_12 : decode cJ0_indexOf_7cf53 12 = .ok (.iload_n 2, 1) := by decide +kernel
theorem dJ0_indexOf_7cf53_13 : decode cJ0_indexOf_7cf53 13 = .ok (.aload_n 0, 1) := by decide +kernel
theorem dJ0_indexOf_7cf53_14 : decode cJ0_indexOf_7cf53 14 = .ok (.invokevirtual 505, 3) := by decide +kernel
theorem G626 : Cond.code ⟨"java/lang/String", "length", "()I"⟩ prog_24_method_54_code 1 (some .int) ∈ GW := gw_i 626 (by decide +kernel) rfl
theorem G623 : Cond.methodLink "java/lang/String" 505 ⟨"java/lang/String", "length", "()I"⟩ ∈ GW := gw_i 623 (by decide +kernel) rfl
theorem V_java_lang_String_505 : VL "java/lang/String" 505 yJ0_length_8abf5 cJ0_length_8abf5 1 (some .int) 0 := ⟨G626, G623, G134, by decide +kernel, by decide +kernel, by decide +kernel⟩
theorem G624 : Cond.instanceMethod ⟨"java/lang/String", "length", "()I"⟩ ∈ GW := gw_i 624 (by decide +kernel) rfl
theorem G625 : Cond.selects "java/lang/String" ⟨"java/lang/String", "length", "()I"⟩ ⟨"java/lang/String", "length", "()I"⟩ ∈ GW := gw_i 625 (by decide +kernel) rfl
theorem dJ0_indexOf_7cf53_17 : decode cJ0_indexOf_7cf53 17 = .ok (.invokestatic 637, 3) := by decide +kernel
theorem G633 : Cond.code ⟨"java/lang/StringLatin1", "indexOf", "([BIII)I"⟩ prog_25_method_22_code 4 (some .int) ∈ GW := gw_i 633 (by decide +kernel) rfl
theorem G631 : Cond.methodLink "java/lang/String" 637 ⟨"java/lang/StringLatin1", "indexOf", "([BIII)I"⟩ ∈ GW := gw_i 631 (by decide +kernel) rfl
theorem V_java_lang_String_637 : VL "java/lang/String" 637 yJ1_indexOf_4cfef cJ1_indexOf_4cfef 4 (some .int) 4 := ⟨G633, G631, G135, by decide +kernel, by decide +kernel, by decide +kernel⟩
theorem G632 : Cond.static ⟨"java/lang/StringLatin1", "indexOf", "([BIII)I"⟩ ∈ GW := gw_i 632 (by decide +kernel) rfl
theorem dJ0_indexOf_7cf53_20 : decode cJ0_indexOf_7cf53 20 = .ok (.goto 16, 3) := by decide +kernel
theorem dJ0_indexOf_7cf53_36 : decode cJ0_indexOf_7cf53 36 = .ok (.ireturn, 1) := by decide +kernel
theorem dJ0_indexOf_0f7a4_0 : decode cJ0_indexOf_0f7a4 0 = .ok (.aload_n 0, 1) := by decide +kernel
theorem dJ0_indexOf_0f7a4_1 : decode cJ0_indexOf_0f7a4 1 = .ok (.iload_n 1, 1) := by decide +kernel
theorem dJ0_indexOf_0f7a4_2 : decode cJ0_indexOf_0f7a4 2 = .ok (.iconst 0, 1) := by decide +kernel
theorem dJ0_indexOf_0f7a4_3 : decode cJ0_indexOf_0f7a4 3 = .ok (.invokevirtual 633, 3) := by decide +kernel
theorem G616 : Cond.code ⟨"java/lang/String", "indexOf", "(II)I"⟩ prog_24_method_80_code 3 (some .int) ∈ GW := gw_i 616 (by decide +kernel) rfl
theorem G613 : Cond.methodLink "java/lang/String" 633 ⟨"java/lang/String", "indexOf", "(II)I"⟩ ∈ GW := gw_i 613 (by decide +kernel) rfl
theorem V_java_lang_String_633 : VL "java/lang/String" 633 yJ0_indexOf_7cf53 cJ0_indexOf_7cf53 3 (some .int) 2 := ⟨G616, G613, G134, by decide +kernel, by decide +kernel, by decide +kernel⟩
theorem G614 : Cond.instanceMethod ⟨"java/lang/String", "indexOf", "(II)I"⟩ ∈ GW := gw_i 614 (by decide +kernel) rfl
theorem G615 : Cond.selects "java/lang/String" ⟨"java/lang/String", "indexOf", "(II)I"⟩ ⟨"java/lang/String", "indexOf", "(II)I"⟩ ∈ GW := gw_i 615 (by decide +kernel) rfl
theorem dJ0_indexOf_0f7a4_6 : decode cJ0_indexOf_0f7a4 6 = .ok (.ireturn, 1) := by decide +kernel
theorem dX8_step_0 : decode cX8_step 0 = .ok (.aload_n 0, 1) := by decide +kernel
theorem dX8_step_1 : decode cX8_step 1 = .ok (.getfield 22, 3) := by decide +kernel
theorem dX8_step_4 : decode cX8_step 4 = .ok (.aload_n 0, 1) := by decide +kernel
theorem dX8_step_5 : decode cX8_step 5 = .ok (.getfield 15, 3) := by decide +kernel
theorem dX8_step_8 : decode cX8_step 8 = .ok (.if_icmp .ge 44, 3) := by decide +kernel
theorem dX8_step_52 : decode cX8_step 52 = .ok (.aload_n 0, 1) := by decide +kernel
theorem dX8_step_53 : decode cX8_step 53 = .ok (.aload_n 0, 1) := by decide +kernel
theorem dX8_step_54 : decode cX8_step 54 = .ok (.getfield 22, 3) := by decide +kernel
theorem dX8_step_57 : decode cX8_step 57 = .ok (.putfield 25, 3) := by decide +kernel
theorem G167 : Cond.fieldLink "HookedCity$Tape" 25 "HookedCity$Tape" "place" "I" ∈ GW := gw_i 167 (by decide +kernel) rfl
theorem dX8_step_60 : decode cX8_step 60 = .ok (.aload_n 0, 1) := by decide +kernel
theorem dX8_step_61 : decode cX8_step 61 = .ok (.aconst_null, 1) := by decide +kernel
theorem dX8_step_62 : decode cX8_step 62 = .ok (.putfield 31, 3) := by decide +kernel
theorem dX8_step_65 : decode cX8_step 65 = .ok (.aload_n 0, 1) := by decide +kernel
theorem dX8_step_66 : decode cX8_step 66 = .ok (.getfield 15, 3) := by decide +kernel
theorem dX8_step_69 : decode cX8_step 69 = .ok (.aload_n 0, 1) := by decide +kernel
theorem dX8_step_70 : decode cX8_step 70 = .ok (.getfield 19, 3) := by decide +kernel
theorem G165 : Cond.fieldLink "HookedCity$Tape" 19 "HookedCity$Tape" "limit" "I" ∈ GW := gw_i 165 (by decide +kernel) rfl
theorem dX8_step_73 : decode cX8_step 73 = .ok (.if_icmp .le 30, 3) := by decide +kernel
theorem dX8_step_103 : decode cX8_step 103 = .ok (.aload_n 0, 1) := by decide +kernel
theorem dX8_step_104 : decode cX8_step 104 = .ok (.getfield 22, 3) := by decide +kernel
theorem dX8_step_107 : decode cX8_step 107 = .ok (.aload_n 0, 1) := by decide +kernel
theorem dX8_step_108 : decode cX8_step 108 = .ok (.getfield 15, 3) := by decide +kernel
theorem dX8_step_111 : decode cX8_step 111 = .ok (.if_icmp .lt 11, 3) := by decide +kernel
theorem dX8_step_114 : decode cX8_step 114 = .ok (.aload_n 0, 1) := by decide +kernel
theorem dX8_step_115 : decode cX8_step 115 = .ok (.iconst 0, 1) := by decide +kernel
theorem dX8_step_116 : decode cX8_step 116 = .ok (.putfield 28, 3) := by decide +kernel
theorem dX8_step_119 : decode cX8_step 119 = .ok (.goto 85, 3) := by decide +kernel
theorem dX8_step_204 : decode cX8_step 204 = .ok (.return_, 1) := by decide +kernel
theorem dX8_step_76 : decode cX8_step 76 = .ok (.aload_n 0, 1) := by decide +kernel
theorem dX8_step_77 : decode cX8_step 77 = .ok (.getfield 22, 3) := by decide +kernel
theorem dX8_step_80 : decode cX8_step 80 = .ok (.aload_n 0, 1) := by decide +kernel
theorem dX8_step_81 : decode cX8_step 81 = .ok (.getfield 19, 3) := by decide +kernel
theorem dX8_step_84 : decode cX8_step 84 = .ok (.if_icmp .lt 19, 3) := by decide +kernel
theorem dX8_step_87 : decode cX8_step 87 = .ok (.aload_n 0, 1) := by decide +kernel
theorem dX8_step_88 : decode cX8_step 88 = .ok (.aload_n 0, 1) := by decide +kernel
theorem dX8_step_89 : decode cX8_step 89 = .ok (.getfield 19, 3) := by decide +kernel
theorem dX8_step_92 : decode cX8_step 92 = .ok (.putfield 25, 3) := by decide +kernel
theorem dX8_step_95 : decode cX8_step 95 = .ok (.aload_n 0, 1) := by decide +kernel
theorem dX8_step_96 : decode cX8_step 96 = .ok (.iconst 1, 1) := by decide +kernel
theorem dX8_step_97 : decode cX8_step 97 = .ok (.putfield 28, 3) := by decide +kernel
theorem dX8_step_100 : decode cX8_step 100 = .ok (.goto 104, 3) := by decide +kernel
theorem dX8_step_11 : decode cX8_step 11 = .ok (.aload_n 0, 1) := by decide +kernel
theorem dX8_step_12 : decode cX8_step 12 = .ok (.getfield 11, 3) := by decide +kernel
theorem dX8_step_15 : decode cX8_step 15 = .ok (.aload_n 0, 1) := by decide +kernel
theorem dX8_step_16 : decode cX8_step 16 = .ok (.getfield 22, 3) := by decide +kernel
theorem dX8_step_19 : decode cX8_step 19 = .ok (.iaload, 1) := by decide +kernel
theorem dX8_step_20 : decode cX8_step 20 = .ok (.bipush 32, 2) := by decide +kernel
theorem dX8_step_22 : decode cX8_step 22 = .ok (.if_icmp .eq 17, 3) := by decide +kernel
theorem dX8_step_39 : decode cX8_step 39 = .ok (.aload_n 0, 1) := by decide +kernel
theorem dX8_step_40 : decode cX8_step 40 = .ok (.dup, 1) := by decide +kernel
theorem dX8_step_41 : decode cX8_step 41 = .ok (.getfield 22, 3) := by decide +kernel
theorem dX8_step_44 : decode cX8_step 44 = .ok (.iconst 1, 1) := by decide +kernel
theorem dX8_step_45 : decode cX8_step 45 = .ok (.iadd, 1) := by decide +kernel
theorem dX8_step_46 : decode cX8_step 46 = .ok (.putfield 22, 3) := by decide +kernel
theorem dX8_step_49 : decode cX8_step 49 = .ok (.goto (-49), 3) := by decide +kernel
theorem dX8_step_25 : decode cX8_step 25 = .ok (.aload_n 0, 1) := by decide +kernel
theorem dX8_step_26 : decode cX8_step 26 = .ok (.getfield 11, 3) := by decide +kernel
theorem dX8_step_29 : decode cX8_step 29 = .ok (.aload_n 0, 1) := by decide +kernel
theorem dX8_step_30 : decode cX8_step 30 = .ok (.getfield 22, 3) := by decide +kernel
theorem dX8_step_33 : decode cX8_step 33 = .ok (.iaload, 1) := by decide +kernel
theorem dX8_step_34 : decode cX8_step 34 = .ok (.bipush 10, 2) := by decide +kernel
theorem dX8_step_36 : decode cX8_step 36 = .ok (.if_icmp .ne 16, 3) := by decide +kernel
theorem dX8_step_122 : decode cX8_step 122 = .ok (.aload_n 0, 1) := by decide +kernel
theorem dX8_step_123 : decode cX8_step 123 = .ok (.getfield 11, 3) := by decide +kernel
theorem dX8_step_126 : decode cX8_step 126 = .ok (.aload_n 0, 1) := by decide +kernel
theorem dX8_step_127 : decode cX8_step 127 = .ok (.getfield 22, 3) := by decide +kernel
theorem dX8_step_130 : decode cX8_step 130 = .ok (.iaload, 1) := by decide +kernel
theorem dX8_step_131 : decode cX8_step 131 = .ok (.invokestatic 58, 3) := by decide +kernel
theorem dX8_step_134 : decode cX8_step 134 = .ok (.ifCond .ne 18, 3) := by decide +kernel
theorem dX8_step_152 : decode cX8_step 152 = .ok (.aload_n 0, 1) := by decide +kernel
theorem dX8_step_153 : decode cX8_step 153 = .ok (.invokevirtual 65, 3) := by decide +kernel
theorem G599 : Cond.code ⟨"HookedCity$Tape", "readRun", "()V"⟩ prog_10_method_8_code 4 none ∈ GW := gw_i 599 (by decide +kernel) rfl
theorem G596 : Cond.methodLink "HookedCity$Tape" 65 ⟨"HookedCity$Tape", "readRun", "()V"⟩ ∈ GW := gw_i 596 (by decide +kernel) rfl
theorem V_HookedCity_Tape_65 : VL "HookedCity$Tape" 65 yX8_readRun cX8_readRun 4 none 0 := ⟨G599, G596, G120, by decide +kernel, by decide +kernel, by decide +kernel⟩
theorem G598 : Cond.instanceMethod ⟨"HookedCity$Tape", "readRun", "()V"⟩ ∈ GW := gw_i 598 (by decide +kernel) rfl
theorem G2 : Cond.selects "HookedCity$Tape" ⟨"HookedCity$Tape", "readRun", "()V"⟩ ⟨"HookedCity$Tape", "readRun", "()V"⟩ ∈ GW := gw_i 2 (by decide +kernel) rfl
theorem dX8_step_156 : decode cX8_step 156 = .ok (.goto 48, 3) := by decide +kernel
theorem dX8_step_137 : decode cX8_step 137 = .ok (.aload_n 0, 1) := by decide +kernel
theorem dX8_step_138 : decode cX8_step 138 = .ok (.getfield 11, 3) := by decide +kernel
theorem dX8_step_141 : decode cX8_step 141 = .ok (.aload_n 0, 1) := by decide +kernel
theorem dX8_step_142 : decode cX8_step 142 = .ok (.getfield 22, 3) := by decide +kernel
theorem dX8_step_145 : decode cX8_step 145 = .ok (.iaload, 1) := by decide +kernel
theorem dX8_step_146 : decode cX8_step 146 = .ok (.invokestatic 62, 3) := by decide +kernel
theorem dX8_step_149 : decode cX8_step 149 = .ok (.ifCond .eq 10, 3) := by decide +kernel
theorem dX8_step_159 : decode cX8_step 159 = .ok (.aload_n 0, 1) := by decide +kernel
theorem dX8_step_160 : decode cX8_step 160 = .ok (.aload_n 0, 1) := by decide +kernel
theorem dX8_step_161 : decode cX8_step 161 = .ok (.getfield 11, 3) := by decide +kernel
theorem dX8_step_164 : decode cX8_step 164 = .ok (.aload_n 0, 1) := by decide +kernel
theorem dX8_step_165 : decode cX8_step 165 = .ok (.getfield 22, 3) := by decide +kernel
theorem dX8_step_168 : decode cX8_step 168 = .ok (.iaload, 1) := by decide +kernel
theorem dX8_step_169 : decode cX8_step 169 = .ok (.putfield 42, 3) := by decide +kernel
theorem G177 : Cond.fieldLink "HookedCity$Tape" 42 "HookedCity$Tape" "mark" "I" ∈ GW := gw_i 177 (by decide +kernel) rfl
theorem dX8_step_172 : decode cX8_step 172 = .ok (.aload_n 0, 1) := by decide +kernel
theorem dX8_step_173 : decode cX8_step 173 = .ok (.ldc 68, 2) := by decide +kernel
theorem dX8_step_175 : decode cX8_step 175 = .ok (.aload_n 0, 1) := by decide +kernel
theorem dX8_step_176 : decode cX8_step 176 = .ok (.getfield 42, 3) := by decide +kernel
theorem dX8_step_179 : decode cX8_step 179 = .ok (.i2c, 1) := by decide +kernel
theorem dX8_step_180 : decode cX8_step 180 = .ok (.invokevirtual 70, 3) := by decide +kernel
theorem G612 : Cond.code ⟨"java/lang/String", "indexOf", "(I)I"⟩ prog_24_method_79_code 2 (some .int) ∈ GW := gw_i 612 (by decide +kernel) rfl
theorem G609 : Cond.methodLink "HookedCity$Tape" 70 ⟨"java/lang/String", "indexOf", "(I)I"⟩ ∈ GW := gw_i 609 (by decide +kernel) rfl
theorem V_HookedCity_Tape_70 : VL "HookedCity$Tape" 70 yJ0_indexOf_0f7a4 cJ0_indexOf_0f7a4 2 (some .int) 1 := ⟨G612, G609, G134, by decide +kernel, by decide +kernel, by decide +kernel⟩
theorem G610 : Cond.instanceMethod ⟨"java/lang/String", "indexOf", "(I)I"⟩ ∈ GW := gw_i 610 (by decide +kernel) rfl
theorem G611 : Cond.selects "java/lang/String" ⟨"java/lang/String", "indexOf", "(I)I"⟩ ⟨"java/lang/String", "indexOf", "(I)I"⟩ ∈ GW := gw_i 611 (by decide +kernel) rfl
theorem dX8_step_183 : decode cX8_step 183 = .ok (.ifCond .lt 7, 3) := by decide +kernel
theorem dX8_step_190 : decode cX8_step 190 = .ok (.iconst 1, 1) := by decide +kernel
theorem dX8_step_191 : decode cX8_step 191 = .ok (.putfield 28, 3) := by decide +kernel
theorem dX8_step_194 : decode cX8_step 194 = .ok (.aload_n 0, 1) := by decide +kernel
theorem dX8_step_195 : decode cX8_step 195 = .ok (.dup, 1) := by decide +kernel
theorem dX8_step_196 : decode cX8_step 196 = .ok (.getfield 22, 3) := by decide +kernel
theorem dX8_step_199 : decode cX8_step 199 = .ok (.iconst 1, 1) := by decide +kernel
theorem dX8_step_200 : decode cX8_step 200 = .ok (.iadd, 1) := by decide +kernel
theorem dX8_step_201 : decode cX8_step 201 = .ok (.putfield 22, 3) := by decide +kernel
theorem dX8_step_186 : decode cX8_step 186 = .ok (.iconst 5, 1) := by decide +kernel
theorem dX8_step_187 : decode cX8_step 187 = .ok (.goto 4, 3) := by decide +kernel
theorem dX8_open_0 : decode cX8_open 0 = .ok (.aload_n 0, 1) := by decide +kernel
theorem dX8_open_1 : decode cX8_open 1 = .ok (.iload_n 1, 1) := by decide +kernel
theorem dX8_open_2 : decode cX8_open 2 = .ok (.putfield 19, 3) := by decide +kernel
theorem dX8_open_5 : decode cX8_open 5 = .ok (.aload_n 0, 1) := by decide +kernel
theorem dX8_open_6 : decode cX8_open 6 = .ok (.iconst 0, 1) := by decide +kernel
theorem dX8_open_7 : decode cX8_open 7 = .ok (.putfield 22, 3) := by decide +kernel
theorem dX8_open_10 : decode cX8_open 10 = .ok (.aload_n 0, 1) := by decide +kernel
theorem dX8_open_11 : decode cX8_open 11 = .ok (.iconst 0, 1) := by decide +kernel
theorem dX8_open_12 : decode cX8_open 12 = .ok (.putfield 45, 3) := by decide +kernel
theorem G179 : Cond.fieldLink "HookedCity$Tape" 45 "HookedCity$Tape" "faultKind" "I" ∈ GW := gw_i 179 (by decide +kernel) rfl
theorem dX8_open_15 : decode cX8_open 15 = .ok (.aload_n 0, 1) := by decide +kernel
theorem dX8_open_16 : decode cX8_open 16 = .ok (.iconst 0, 1) := by decide +kernel
theorem dX8_open_17 : decode cX8_open 17 = .ok (.putfield 48, 3) := by decide +kernel
theorem G181 : Cond.fieldLink "HookedCity$Tape" 48 "HookedCity$Tape" "faultPlace" "I" ∈ GW := gw_i 181 (by decide +kernel) rfl
theorem dX8_open_20 : decode cX8_open 20 = .ok (.aload_n 0, 1) := by decide +kernel
theorem dX8_open_21 : decode cX8_open 21 = .ok (.invokevirtual 55, 3) := by decide +kernel
theorem G589 : Cond.code ⟨"HookedCity$Tape", "step", "()V"⟩ prog_10_method_7_code 1 none ∈ GW := gw_i 589 (by decide +kernel) rfl
theorem G586 : Cond.methodLink "HookedCity$Tape" 55 ⟨"HookedCity$Tape", "step", "()V"⟩ ∈ GW := gw_i 586 (by decide +kernel) rfl
theorem V_HookedCity_Tape_55 : VL "HookedCity$Tape" 55 yX8_step cX8_step 1 none 0 := ⟨G589, G586, G120, by decide +kernel, by decide +kernel, by decide +kernel⟩
theorem G587 : Cond.instanceMethod ⟨"HookedCity$Tape", "step", "()V"⟩ ∈ GW := gw_i 587 (by decide +kernel) rfl
theorem G588 : Cond.selects "HookedCity$Tape" ⟨"HookedCity$Tape", "step", "()V"⟩ ⟨"HookedCity$Tape", "step", "()V"⟩ ∈ GW := gw_i 588 (by decide +kernel) rfl
theorem dX8_open_24 : decode cX8_open 24 = .ok (.return_, 1) := by decide +kernel
theorem dX8_letterOf_0 : decode cX8_letterOf 0 = .ok (.lload_n 0, 1) := by decide +kernel
theorem dX8_letterOf_1 : decode cX8_letterOf 1 = .ok (.bipush 6, 2) := by decide +kernel
theorem dX8_letterOf_3 : decode cX8_letterOf 3 = .ok (.iload_n 2, 1) := by decide +kernel
theorem dX8_letterOf_4 : decode cX8_letterOf 4 = .ok (.isub, 1) := by decide +kernel
theorem dX8_letterOf_5 : decode cX8_letterOf 5 = .ok (.iconst 5, 1) := by decide +kernel
theorem dX8_letterOf_6 : decode cX8_letterOf 6 = .ok (.imul, 1) := by decide +kernel
theorem dX8_letterOf_7 : decode cX8_letterOf 7 = .ok (.lushr, 1) := by decide +kernel
theorem dX8_letterOf_8 : decode cX8_letterOf 8 = .ok (.l2i, 1) := by decide +kernel
theorem dX8_letterOf_9 : decode cX8_letterOf 9 = .ok (.bipush 31, 2) := by decide +kernel
theorem dX8_letterOf_11 : decode cX8_letterOf 11 = .ok (.iand, 1) := by decide +kernel
theorem dX8_letterOf_12 : decode cX8_letterOf 12 = .ok (.istore_n 3, 1) := by decide +kernel
theorem dX8_letterOf_13 : decode cX8_letterOf 13 = .ok (.iload_n 3, 1) := by decide +kernel
theorem dX8_letterOf_14 : decode cX8_letterOf 14 = .ok (.ifCond .ne 7, 3) := by decide +kernel
theorem dX8_letterOf_21 : decode cX8_letterOf 21 = .ok (.bipush 97, 2) := by decide +kernel
theorem dX8_letterOf_23 : decode cX8_letterOf 23 = .ok (.iload_n 3, 1) := by decide +kernel
theorem dX8_letterOf_24 : decode cX8_letterOf 24 = .ok (.iadd, 1) := by decide +kernel
theorem dX8_letterOf_25 : decode cX8_letterOf 25 = .ok (.iconst 1, 1) := by decide +kernel
theorem dX8_letterOf_26 : decode cX8_letterOf 26 = .ok (.isub, 1) := by decide +kernel
theorem dX8_letterOf_27 : decode cX8_letterOf 27 = .ok (.ireturn, 1) := by decide +kernel
theorem dX8_letterOf_17 : decode cX8_letterOf 17 = .ok (.iconst 0, 1) := by decide +kernel
theorem dX8_letterOf_18 : decode cX8_letterOf 18 = .ok (.goto 9, 3) := by decide +kernel
theorem dX8_atEnd_0 : decode cX8_atEnd 0 = .ok (.aload_n 0, 1) := by decide +kernel
theorem dX8_atEnd_1 : decode cX8_atEnd 1 = .ok (.getfield 28, 3) := by decide +kernel
theorem dX8_atEnd_4 : decode cX8_atEnd 4 = .ok (.ifCond .ne 7, 3) := by decide +kernel
theorem dX8_atEnd_11 : decode cX8_atEnd 11 = .ok (.iconst 0, 1) := by decide +kernel
theorem dX8_atEnd_12 : decode cX8_atEnd 12 = .ok (.ireturn, 1) := by decide +kernel
theorem dX8_atEnd_7 : decode cX8_atEnd 7 = .ok (.iconst 1, 1) := by decide +kernel
theorem dX8_atEnd_8 : decode cX8_atEnd 8 = .ok (.goto 4, 3) := by decide +kernel
theorem dX8_atMark_0 : decode cX8_atMark 0 = .ok (.aload_n 0, 1) := by decide +kernel
theorem dX8_atMark_1 : decode cX8_atMark 1 = .ok (.getfield 28, 3) := by decide +kernel
theorem dX8_atMark_4 : decode cX8_atMark 4 = .ok (.iconst 5, 1) := by decide +kernel
theorem dX8_atMark_5 : decode cX8_atMark 5 = .ok (.if_icmp .ne 15, 3) := by decide +kernel
theorem dX8_atMark_20 : decode cX8_atMark 20 = .ok (.iconst 0, 1) := by decide +kernel
theorem dX8_atMark_21 : decode cX8_atMark 21 = .ok (.ireturn, 1) := by decide +kernel
theorem dX8_atMark_8 : decode cX8_atMark 8 = .ok (.aload_n 0, 1) := by decide +kernel
theorem dX8_atMark_9 : decode cX8_atMark 9 = .ok (.getfield 42, 3) := by decide +kernel
theorem dX8_atMark_12 : decode cX8_atMark 12 = .ok (.iload_n 1, 1) := by decide +kernel
theorem dX8_atMark_13 : decode cX8_atMark 13 = .ok (.if_icmp .ne 7, 3) := by decide +kernel
theorem dX8_atMark_16 : decode cX8_atMark 16 = .ok (.iconst 1, 1) := by decide +kernel
theorem dX8_atMark_17 : decode cX8_atMark 17 = .ok (.goto 4, 3) := by decide +kernel
theorem dX8_fail_0 : decode cX8_fail 0 = .ok (.aload_n 0, 1) := by decide +kernel
theorem dX8_fail_1 : decode cX8_fail 1 = .ok (.iload_n 1, 1) := by decide +kernel
theorem dX8_fail_2 : decode cX8_fail 2 = .ok (.putfield 45, 3) := by decide +kernel
theorem dX8_fail_5 : decode cX8_fail 5 = .ok (.aload_n 0, 1) := by decide +kernel
theorem dX8_fail_6 : decode cX8_fail 6 = .ok (.aload_n 0, 1) := by decide +kernel
theorem dX8_fail_7 : decode cX8_fail 7 = .ok (.getfield 25, 3) := by decide +kernel
theorem dX8_fail_10 : decode cX8_fail 10 = .ok (.putfield 48, 3) := by decide +kernel
theorem dX8_fail_13 : decode cX8_fail 13 = .ok (.iconst 0, 1) := by decide +kernel
theorem dX8_fail_14 : decode cX8_fail 14 = .ok (.ireturn, 1) := by decide +kernel
theorem dX8_pass_0 : decode cX8_pass 0 = .ok (.aload_n 0, 1) := by decide +kernel
theorem dX8_pass_1 : decode cX8_pass 1 = .ok (.iload_n 1, 1) := by decide +kernel
theorem dX8_pass_2 : decode cX8_pass 2 = .ok (.invokevirtual 86, 3) := by decide +kernel
theorem G785 : Cond.code ⟨"HookedCity$Tape", "atMark", "(C)Z"⟩ prog_10_method_14_code 2 (some .boolean) ∈ GW := gw_i 785 (by decide +kernel) rfl
theorem G782 : Cond.methodLink "HookedCity$Tape" 86 ⟨"HookedCity$Tape", "atMark", "(C)Z"⟩ ∈ GW := gw_i 782 (by decide +kernel) rfl
theorem V_HookedCity_Tape_86 : VL "HookedCity$Tape" 86 yX8_atMark cX8_atMark 2 (some .boolean) 1 := ⟨G785, G782, G120, by decide +kernel, by decide +kernel, by decide +kernel⟩
theorem G783 : Cond.instanceMethod ⟨"HookedCity$Tape", "atMark", "(C)Z"⟩ ∈ GW := gw_i 783 (by decide +kernel) rfl
theorem G784 : Cond.selects "HookedCity$Tape" ⟨"HookedCity$Tape", "atMark", "(C)Z"⟩ ⟨"HookedCity$Tape", "atMark", "(C)Z"⟩ ∈ GW := gw_i 784 (by decide +kernel) rfl
theorem dX8_pass_5 : decode cX8_pass 5 = .ok (.ifCond .ne 9, 3) := by decide +kernel
theorem dX8_pass_14 : decode cX8_pass 14 = .ok (.aload_n 0, 1) := by decide +kernel
theorem dX8_pass_15 : decode cX8_pass 15 = .ok (.invokevirtual 55, 3) := by decide +kernel
theorem dX8_pass_18 : decode cX8_pass 18 = .ok (.iconst 1, 1) := by decide +kernel
theorem dX8_pass_19 : decode cX8_pass 19 = .ok (.ireturn, 1) := by decide +kernel
theorem dX8_pass_8 : decode cX8_pass 8 = .ok (.aload_n 0, 1) := by decide +kernel
theorem dX8_pass_9 : decode cX8_pass 9 = .ok (.iconst 1, 1) := by decide +kernel
theorem dX8_pass_10 : decode cX8_pass 10 = .ok (.invokevirtual 90, 3) := by decide +kernel
theorem G712 : Cond.code ⟨"HookedCity$Tape", "fail", "(I)Z"⟩ prog_10_method_15_code 2 (some .boolean) ∈ GW := gw_i 712 (by decide +kernel) rfl
theorem G729 : Cond.methodLink "HookedCity$Tape" 90 ⟨"HookedCity$Tape", "fail", "(I)Z"⟩ ∈ GW := gw_i 729 (by decide +kernel) rfl
theorem V_HookedCity_Tape_90 : VL "HookedCity$Tape" 90 yX8_fail cX8_fail 2 (some .boolean) 1 := ⟨G712, G729, G120, by decide +kernel, by decide +kernel, by decide +kernel⟩
theorem G710 : Cond.instanceMethod ⟨"HookedCity$Tape", "fail", "(I)Z"⟩ ∈ GW := gw_i 710 (by decide +kernel) rfl
theorem G711 : Cond.selects "HookedCity$Tape" ⟨"HookedCity$Tape", "fail", "(I)Z"⟩ ⟨"HookedCity$Tape", "fail", "(I)Z"⟩ ∈ GW := gw_i 711 (by decide +kernel) rfl
theorem dX8_pass_13 : decode cX8_pass 13 = .ok (.ireturn, 1) := by decide +kernel
theorem dX8_numberAt_0 : decode cX8_numberAt 0 = .ok (.aload_n 0, 1) := by decide +kernel
theorem dX8_numberAt_1 : decode cX8_numberAt 1 = .ok (.getfield 28, 3) := by decide +kernel
theorem dX8_numberAt_4 : decode cX8_numberAt 4 = .ok (.iconst 4, 1) := by decide +kernel
theorem dX8_numberAt_5 : decode cX8_numberAt 5 = .ok (.if_icmp .eq 11, 3) := by decide +kernel
theorem dX8_numberAt_16 : decode cX8_numberAt 16 = .ok (.aload_n 0, 1) := by decide +kernel
theorem dX8_numberAt_17 : decode cX8_numberAt 17 = .ok (.getfield 39, 3) := by decide +kernel
theorem dX8_numberAt_20 : decode cX8_numberAt 20 = .ok (.iload_n 1, 1) := by decide +kernel
theorem dX8_numberAt_21 : decode cX8_numberAt 21 = .ok (.if_icmp .lt 11, 3) := by decide +kernel
theorem dX8_numberAt_32 : decode cX8_numberAt 32 = .ok (.aload_n 0, 1) := by decide +kernel
theorem dX8_numberAt_33 : decode cX8_numberAt 33 = .ok (.iconst 2, 1) := by decide +kernel
theorem dX8_numberAt_34 : decode cX8_numberAt 34 = .ok (.invokevirtual 90, 3) := by decide +kernel
theorem dX8_numberAt_37 : decode cX8_numberAt 37 = .ok (.pop, 1) := by decide +kernel
theorem dX8_numberAt_38 : decode cX8_numberAt 38 = .ok (.iconst (-1), 1) := by decide +kernel
theorem dX8_numberAt_39 : decode cX8_numberAt 39 = .ok (.ireturn, 1) := by decide +kernel
theorem dX8_numberAt_24 : decode cX8_numberAt 24 = .ok (.aload_n 0, 1) := by decide +kernel
theorem dX8_numberAt_25 : decode cX8_numberAt 25 = .ok (.getfield 39, 3) := by decide +kernel
theorem dX8_numberAt_28 : decode cX8_numberAt 28 = .ok (.iload_n 2, 1) := by decide +kernel
theorem dX8_numberAt_29 : decode cX8_numberAt 29 = .ok (.if_icmp .le 11, 3) := by decide +kernel
theorem dX8_numberAt_40 : decode cX8_numberAt 40 = .ok (.aload_n 0, 1) := by decide +kernel
theorem dX8_numberAt_41 : decode cX8_numberAt 41 = .ok (.getfield 39, 3) := by decide +kernel
theorem dX8_numberAt_44 : decode cX8_numberAt 44 = .ok (.ireturn, 1) := by decide +kernel
theorem dX8_numberAt_8 : decode cX8_numberAt 8 = .ok (.aload_n 0, 1) := by decide +kernel
theorem dX8_numberAt_9 : decode cX8_numberAt 9 = .ok (.iconst 1, 1) := by decide +kernel
theorem dX8_numberAt_10 : decode cX8_numberAt 10 = .ok (.invokevirtual 90, 3) := by decide +kernel
theorem dX8_numberAt_13 : decode cX8_numberAt 13 = .ok (.pop, 1) := by decide +kernel
theorem dX8_numberAt_14 : decode cX8_numberAt 14 = .ok (.iconst (-1), 1) := by decide +kernel
theorem dX8_numberAt_15 : decode cX8_numberAt 15 = .ok (.ireturn, 1) := by decide +kernel
set_option maxRecDepth 100000 in
set_option maxHeartbeats 4000000 in
theorem c249_X8_append (l : Launch) (D : va_G) (T : Nat → ClassId) (sz : Nat) (a0 : Nat) (x0 : Int) (a1 : Nat) (x1 : Int) (x2 : Int) (x3 : Int) (x4 : Int) (x5 : Int) (o0 : Option Nat) (y0 : Int64) (r0 : Int32) (x6 : Int) (x7 : Int) (x8 : Int) (f0 : Int → Int) (x0_a : (-2147483648) ≤ x0) (x0_b : x0 ≤ 2147483647) (x1_a : 0 ≤ x1) (x1_b : x1 ≤ 936) (x2_a : 0 ≤ x2) (x2_b : x2 ≤ 940) (x3_a : 0 ≤ x3) (x3_b : x3 ≤ 940) (x4_a : 0 ≤ x4) (x4_b : x4 ≤ 940) (x5_a : 0 ≤ x5) (x5_b : x5 ≤ 5) (o0_h : wok T o0) (x6_a : (-2147483648) ≤ x6) (x6_b : x6 ≤ 2147483647) (x7_a : (-2147483648) ≤ x7) (x7_b : x7 ≤ 2147483647) (x8_a : 0 ≤ x8) (x8_b : x8 ≤ 940) (f0_h : rng 0 255 f0) : Met l yX8_append (Cond.code yX8_append cX8_append 3 none :: GW) (Rm 0 0 0) (cPre [.ref a0, .int (iI x0)] D T [(a0, .inr (8, [.ref a1, .int (iI x1), .int (iI x2), .int (iI x3), .int (iI x4), .int (iI x5), (va_rf o0), .long y0, .int r0, .int (iI x6), .int (iI x7), .int (iI x8)])), (a1, .inl (T 0, 940, .inl (cI f0)))] sz) (qV D [(a0, .inr (8, [.ref a1, .int (iI x1), .int (iI x2), .int (iI x3), .int (iI x4), .int (iI x5), (va_rf o0), .long y0, .int r0, .int (iI x6), .int (iI x7), .int (iI x8)])), (a1, .inl (T 0, 940, .inl (cI f0)))] sz (fun (u : Int × (Int → Int)) => 0 ≤ u.1 ∧ u.1 ≤ 940 ∧ rng 0 255 u.2 ∧ 0 ≤ ((x1 + 4) - u.1) ∧ 0 ≤ ((u.1 - 4) - x1) ∧ (u.2 = bts f0 x1 x0)) (fun u => [(a0, .inr (8, [.ref a1, .int (iI u.1), .int (iI x2), .int (iI x3), .int (iI x4), .int (iI x5), (va_rf o0), .long y0, .int r0, .int (iI x6), .int (iI x7), .int (iI x8)])), (a1, .inl (T 0, 940, .inl (cI u.2)))])) 0 0 (va_A [(a0, .inr (8, [.ref a1, .int (iI x1), .int (iI x2), .int (iI x3), .int (iI x4), .int (iI x5), (va_rf o0), .long y0, .int r0, .int (iI x6), .int (iI x7), .int (iI x8)])), (a1, .inl (T 0, 940, .inl (cI f0)))] sz) := by
  refine e_V (by decide) (Nat.le_of_ble_eq_true rfl) ?_
  intro p e s m args below meth c A Q ls M hin w ret hl
  have hx := M.1.1
  have hb := M.1.2.1
  have hl : lv_has ls 3 [(0, .ref a0), (1, .int (iI x0))] := hl
  refine lv_bipush (v := iI 24) hx hb dX8_append_0 (by decide +kernel) ?_
  refine lv_istore_n (lv' := [(2, .int (iI 24)), (0, .ref a0), (1, .int (iI x0))]) hx hb dX8_append_2 rfl hl (by decide) rfl (fun ls hl => ?_)
  refine lv_iload_n hx hb dX8_append_3 rfl (lv_at hl 0 rfl) ?_
  refine lv_if_lt (tgt := 49) hx hb dX8_append_4 (by decide) (fun c => absurd c (by decide +kernel)) (fun _ => ?_)
  refine lv_aload_n hx hb dX8_append_7 rfl (lv_at hl 1 rfl) ?_
  refine r_get (v := .int (iI x1)) M w 0 1 clX8 rfl (by decide) G162 rfl rfl dX8_append_8 ?_
  refine lv_sipush (v := iI 940) hx hb dX8_append_11 (by decide +kernel) ?_
  refine lv_icmp_ge (tgt := 49) hx hb dX8_append_14 (by decide) (fun c_1 => ?_) (fun c_1 => ?_)
  · replace c_1 := (iI_le (by decide) (by decide) (Int.le_trans (by decide) x1_a) (Int.le_trans x1_b (by decide))).mp c_1
    exfalso; omega
  · replace c_1 : x1 < 940 := Int.not_le.mp (fun h => c_1 ((iI_le (by decide) (by decide) (Int.le_trans (by decide) x1_a) (Int.le_trans x1_b (by decide))).mpr h))
    refine lv_aload_n hx hb dX8_append_17 rfl (lv_at hl 1 rfl) ?_
    refine r_get (v := .ref a1) M w 0 0 clX8 rfl (by decide) G160 rfl rfl dX8_append_18 ?_
    refine lv_aload_n hx hb dX8_append_21 rfl (lv_at hl 1 rfl) ?_
    refine r_get (v := .int (iI x1)) M w 0 1 clX8 rfl (by decide) G162 rfl rfl dX8_append_22 ?_
    refine lv_iload_n hx hb dX8_append_25 rfl (lv_at hl 2 rfl) ?_
    refine lv_iload_n hx hb dX8_append_26 rfl (lv_at hl 0 rfl) ?_
    refine r_iushr (v := (Int32.toUInt32 (iI x0) >>> (Int32.toUInt32 (iI 24) &&& Int32.toUInt32 31)).toInt32) M rfl dX8_append_27 ?_
    refine lv_sipush (v := iI 255) hx hb dX8_append_28 (by decide +kernel) ?_
    refine r_iand (v := (((Int32.toUInt32 (iI x0) >>> (Int32.toUInt32 (iI 24) &&& Int32.toUInt32 31)).toInt32) &&& (iI 255))) M rfl dX8_append_31 ?_
    refine b_rngx (lo := 0) (hi := 255) (and_255 _) (fun z2 z2_a z2_b hz3 => ?_)
    refine r_iast (ws' := [(a0, .inr (8, [.ref a1, .int (iI x1), .int (iI x2), .int (iI x3), .int (iI x4), .int (iI x5), (va_rf o0), .long y0, .int r0, .int (iI x6), .int (iI x7), .int (iI x8)])), (a1, .inl (T 0, 940, .inl (cI (upz f0 x1 z2))))]) M w 1 rfl (iI_in (by omega) (by omega) (by decide)) (by rw [cI_up (by omega) (by omega)]; rfl) dX8_append_32 (fun H locs w => ?_)
    refine lv_aload_n hx hb dX8_append_33 rfl (lv_at hl 1 rfl) ?_
    refine lv_dup hx hb dX8_append_34 rfl ?_
    refine r_get (v := .int (iI x1)) M w 0 1 clX8 rfl (by decide) G162 rfl rfl dX8_append_35 ?_
    refine lv_iconst (v := iI 1) hx hb dX8_append_38 (by decide +kernel) ?_
    refine r_iadd (v := iI (x1 + 1)) M (iI_add _ _) dX8_append_39 ?_
    refine r_put (ws' := [(a0, .inr (8, [.ref a1, .int (iI (x1 + 1)), .int (iI x2), .int (iI x3), .int (iI x4), .int (iI x5), (va_rf o0), .long y0, .int r0, .int (iI x6), .int (iI x7), .int (iI x8)])), (a1, .inl (T 0, 940, .inl (cI (upz f0 x1 z2))))]) M w 0 1 clX8 rfl (by decide) G162 rfl rfl rfl rfl (Nat.le_of_ble_eq_true rfl) rfl dX8_append_40 (fun H locs w => ?_)
    refine lv_iinc (v := iI 16) (lv' := [(2, .int (iI 16)), (0, .ref a0), (1, .int (iI x0))]) hx hb dX8_append_43 hl (k := 0) rfl (by decide +kernel) (by decide) rfl (fun ls hl => ?_)
    refine lv_goto (tgt := 3) hx hb dX8_append_46 (by decide) ?_
    refine lv_iload_n hx hb dX8_append_3 rfl (lv_at hl 0 rfl) ?_
    refine lv_if_lt (tgt := 49) hx hb dX8_append_4 (by decide) (fun c => absurd c (by decide +kernel)) (fun _ => ?_)
    refine lv_aload_n hx hb dX8_append_7 rfl (lv_at hl 1 rfl) ?_
    refine r_get (v := .int (iI (x1 + 1))) M w 0 1 clX8 rfl (by decide) G162 rfl rfl dX8_append_8 ?_
    refine lv_sipush (v := iI 940) hx hb dX8_append_11 (by decide +kernel) ?_
    refine lv_icmp_ge (tgt := 49) hx hb dX8_append_14 (by decide) (fun c_4 => ?_) (fun c_4 => ?_)
    · replace c_4 := (iI_le (by decide) (by decide) (by omega) (by omega)).mp c_4
      exfalso; omega
    · replace c_4 : (x1 + 1) < 940 := Int.not_le.mp (fun h => c_4 ((iI_le (by decide) (by decide) (by omega) (by omega)).mpr h))
      refine lv_aload_n hx hb dX8_append_17 rfl (lv_at hl 1 rfl) ?_
      refine r_get (v := .ref a1) M w 0 0 clX8 rfl (by decide) G160 rfl rfl dX8_append_18 ?_
      refine lv_aload_n hx hb dX8_append_21 rfl (lv_at hl 1 rfl) ?_
      refine r_get (v := .int (iI (x1 + 1))) M w 0 1 clX8 rfl (by decide) G162 rfl rfl dX8_append_22 ?_
      refine lv_iload_n hx hb dX8_append_25 rfl (lv_at hl 2 rfl) ?_
      refine lv_iload_n hx hb dX8_append_26 rfl (lv_at hl 0 rfl) ?_
      refine r_iushr (v := (Int32.toUInt32 (iI x0) >>> (Int32.toUInt32 (iI 16) &&& Int32.toUInt32 31)).toInt32) M rfl dX8_append_27 ?_
      refine lv_sipush (v := iI 255) hx hb dX8_append_28 (by decide +kernel) ?_
      refine r_iand (v := (((Int32.toUInt32 (iI x0) >>> (Int32.toUInt32 (iI 16) &&& Int32.toUInt32 31)).toInt32) &&& (iI 255))) M rfl dX8_append_31 ?_
      refine b_rngx (lo := 0) (hi := 255) (and_255 _) (fun z5 z5_a z5_b hz6 => ?_)
      refine r_iast (ws' := [(a0, .inr (8, [.ref a1, .int (iI (x1 + 1)), .int (iI x2), .int (iI x3), .int (iI x4), .int (iI x5), (va_rf o0), .long y0, .int r0, .int (iI x6), .int (iI x7), .int (iI x8)])), (a1, .inl (T 0, 940, .inl (cI (upz (upz f0 x1 z2) (x1 + 1) z5))))]) M w 1 rfl (iI_in (by omega) (by omega) (by decide)) (by rw [cI_up (by omega) (by omega)]; rfl) dX8_append_32 (fun H locs w => ?_)
      refine lv_aload_n hx hb dX8_append_33 rfl (lv_at hl 1 rfl) ?_
      refine lv_dup hx hb dX8_append_34 rfl ?_
      refine r_get (v := .int (iI (x1 + 1))) M w 0 1 clX8 rfl (by decide) G162 rfl rfl dX8_append_35 ?_
      refine lv_iconst (v := iI 1) hx hb dX8_append_38 (by decide +kernel) ?_
      refine r_iadd (v := iI ((x1 + 1) + 1)) M (iI_add _ _) dX8_append_39 ?_
      refine r_put (ws' := [(a0, .inr (8, [.ref a1, .int (iI ((x1 + 1) + 1)), .int (iI x2), .int (iI x3), .int (iI x4), .int (iI x5), (va_rf o0), .long y0, .int r0, .int (iI x6), .int (iI x7), .int (iI x8)])), (a1, .inl (T 0, 940, .inl (cI (upz (upz f0 x1 z2) (x1 + 1) z5))))]) M w 0 1 clX8 rfl (by decide) G162 rfl rfl rfl rfl (Nat.le_of_ble_eq_true rfl) rfl dX8_append_40 (fun H locs w => ?_)
      refine lv_iinc (v := iI 8) (lv' := [(2, .int (iI 8)), (0, .ref a0), (1, .int (iI x0))]) hx hb dX8_append_43 hl (k := 0) rfl (by decide +kernel) (by decide) rfl (fun ls hl => ?_)
      refine lv_goto (tgt := 3) hx hb dX8_append_46 (by decide) ?_
      refine lv_iload_n hx hb dX8_append_3 rfl (lv_at hl 0 rfl) ?_
      refine lv_if_lt (tgt := 49) hx hb dX8_append_4 (by decide) (fun c => absurd c (by decide +kernel)) (fun _ => ?_)
      refine lv_aload_n hx hb dX8_append_7 rfl (lv_at hl 1 rfl) ?_
      refine r_get (v := .int (iI ((x1 + 1) + 1))) M w 0 1 clX8 rfl (by decide) G162 rfl rfl dX8_append_8 ?_
      refine lv_sipush (v := iI 940) hx hb dX8_append_11 (by decide +kernel) ?_
      refine lv_icmp_ge (tgt := 49) hx hb dX8_append_14 (by decide) (fun c_7 => ?_) (fun c_7 => ?_)
      · replace c_7 := (iI_le (by decide) (by decide) (by omega) (by omega)).mp c_7
        exfalso; omega
      · replace c_7 : ((x1 + 1) + 1) < 940 := Int.not_le.mp (fun h => c_7 ((iI_le (by decide) (by decide) (by omega) (by omega)).mpr h))
        refine lv_aload_n hx hb dX8_append_17 rfl (lv_at hl 1 rfl) ?_
        refine r_get (v := .ref a1) M w 0 0 clX8 rfl (by decide) G160 rfl rfl dX8_append_18 ?_
        refine lv_aload_n hx hb dX8_append_21 rfl (lv_at hl 1 rfl) ?_
        refine r_get (v := .int (iI ((x1 + 1) + 1))) M w 0 1 clX8 rfl (by decide) G162 rfl rfl dX8_append_22 ?_
        refine lv_iload_n hx hb dX8_append_25 rfl (lv_at hl 2 rfl) ?_
        refine lv_iload_n hx hb dX8_append_26 rfl (lv_at hl 0 rfl) ?_
        refine r_iushr (v := (Int32.toUInt32 (iI x0) >>> (Int32.toUInt32 (iI 8) &&& Int32.toUInt32 31)).toInt32) M rfl dX8_append_27 ?_
        refine lv_sipush (v := iI 255) hx hb dX8_append_28 (by decide +kernel) ?_
        refine r_iand (v := (((Int32.toUInt32 (iI x0) >>> (Int32.toUInt32 (iI 8) &&& Int32.toUInt32 31)).toInt32) &&& (iI 255))) M rfl dX8_append_31 ?_
        refine b_rngx (lo := 0) (hi := 255) (and_255 _) (fun z8 z8_a z8_b hz9 => ?_)
        refine r_iast (ws' := [(a0, .inr (8, [.ref a1, .int (iI ((x1 + 1) + 1)), .int (iI x2), .int (iI x3), .int (iI x4), .int (iI x5), (va_rf o0), .long y0, .int r0, .int (iI x6), .int (iI x7), .int (iI x8)])), (a1, .inl (T 0, 940, .inl (cI (upz (upz (upz f0 x1 z2) (x1 + 1) z5) ((x1 + 1) + 1) z8))))]) M w 1 rfl (iI_in (by omega) (by omega) (by decide)) (by rw [cI_up (by omega) (by omega)]; rfl) dX8_append_32 (fun H locs w => ?_)
        refine lv_aload_n hx hb dX8_append_33 rfl (lv_at hl 1 rfl) ?_
        refine lv_dup hx hb dX8_append_34 rfl ?_
        refine r_get (v := .int (iI ((x1 + 1) + 1))) M w 0 1 clX8 rfl (by decide) G162 rfl rfl dX8_append_35 ?_
        refine lv_iconst (v := iI 1) hx hb dX8_append_38 (by decide +kernel) ?_
        refine r_iadd (v := iI (((x1 + 1) + 1) + 1)) M (iI_add _ _) dX8_append_39 ?_
        refine r_put (ws' := [(a0, .inr (8, [.ref a1, .int (iI (((x1 + 1) + 1) + 1)), .int (iI x2), .int (iI x3), .int (iI x4), .int (iI x5), (va_rf o0), .long y0, .int r0, .int (iI x6), .int (iI x7), .int (iI x8)])), (a1, .inl (T 0, 940, .inl (cI (upz (upz (upz f0 x1 z2) (x1 + 1) z5) ((x1 + 1) + 1) z8))))]) M w 0 1 clX8 rfl (by decide) G162 rfl rfl rfl rfl (Nat.le_of_ble_eq_true rfl) rfl dX8_append_40 (fun H locs w => ?_)
        refine lv_iinc (v := iI 0) (lv' := [(2, .int (iI 0)), (0, .ref a0), (1, .int (iI x0))]) hx hb dX8_append_43 hl (k := 0) rfl (by decide +kernel) (by decide) rfl (fun ls hl => ?_)
        refine lv_goto (tgt := 3) hx hb dX8_append_46 (by decide) ?_
        refine lv_iload_n hx hb dX8_append_3 rfl (lv_at hl 0 rfl) ?_
        refine lv_if_lt (tgt := 49) hx hb dX8_append_4 (by decide) (fun c => absurd c (by decide +kernel)) (fun _ => ?_)
        refine lv_aload_n hx hb dX8_append_7 rfl (lv_at hl 1 rfl) ?_
        refine r_get (v := .int (iI (((x1 + 1) + 1) + 1))) M w 0 1 clX8 rfl (by decide) G162 rfl rfl dX8_append_8 ?_
        refine lv_sipush (v := iI 940) hx hb dX8_append_11 (by decide +kernel) ?_
        refine lv_icmp_ge (tgt := 49) hx hb dX8_append_14 (by decide) (fun c_10 => ?_) (fun c_10 => ?_)
        · replace c_10 := (iI_le (by decide) (by decide) (by omega) (by omega)).mp c_10
          exfalso; omega
        · replace c_10 : (((x1 + 1) + 1) + 1) < 940 := Int.not_le.mp (fun h => c_10 ((iI_le (by decide) (by decide) (by omega) (by omega)).mpr h))
          refine lv_aload_n hx hb dX8_append_17 rfl (lv_at hl 1 rfl) ?_
          refine r_get (v := .ref a1) M w 0 0 clX8 rfl (by decide) G160 rfl rfl dX8_append_18 ?_
          refine lv_aload_n hx hb dX8_append_21 rfl (lv_at hl 1 rfl) ?_
          refine r_get (v := .int (iI (((x1 + 1) + 1) + 1))) M w 0 1 clX8 rfl (by decide) G162 rfl rfl dX8_append_22 ?_
          refine lv_iload_n hx hb dX8_append_25 rfl (lv_at hl 2 rfl) ?_
          refine lv_iload_n hx hb dX8_append_26 rfl (lv_at hl 0 rfl) ?_
          refine r_iushr (v := (Int32.toUInt32 (iI x0) >>> (Int32.toUInt32 (iI 0) &&& Int32.toUInt32 31)).toInt32) M rfl dX8_append_27 ?_
          refine lv_sipush (v := iI 255) hx hb dX8_append_28 (by decide +kernel) ?_
          refine r_iand (v := (((Int32.toUInt32 (iI x0) >>> (Int32.toUInt32 (iI 0) &&& Int32.toUInt32 31)).toInt32) &&& (iI 255))) M rfl dX8_append_31 ?_
          refine b_rngx (lo := 0) (hi := 255) (and_255 _) (fun z11 z11_a z11_b hz12 => ?_)
          refine r_iast (ws' := [(a0, .inr (8, [.ref a1, .int (iI (((x1 + 1) + 1) + 1)), .int (iI x2), .int (iI x3), .int (iI x4), .int (iI x5), (va_rf o0), .long y0, .int r0, .int (iI x6), .int (iI x7), .int (iI x8)])), (a1, .inl (T 0, 940, .inl (cI (upz (upz (upz (upz f0 x1 z2) (x1 + 1) z5) ((x1 + 1) + 1) z8) (((x1 + 1) + 1) + 1) z11))))]) M w 1 rfl (iI_in (by omega) (by omega) (by decide)) (by rw [cI_up (by omega) (by omega)]; rfl) dX8_append_32 (fun H locs w => ?_)
          refine lv_aload_n hx hb dX8_append_33 rfl (lv_at hl 1 rfl) ?_
          refine lv_dup hx hb dX8_append_34 rfl ?_
          refine r_get (v := .int (iI (((x1 + 1) + 1) + 1))) M w 0 1 clX8 rfl (by decide) G162 rfl rfl dX8_append_35 ?_
          refine lv_iconst (v := iI 1) hx hb dX8_append_38 (by decide +kernel) ?_
          refine r_iadd (v := iI ((((x1 + 1) + 1) + 1) + 1)) M (iI_add _ _) dX8_append_39 ?_
          refine r_put (ws' := [(a0, .inr (8, [.ref a1, .int (iI ((((x1 + 1) + 1) + 1) + 1)), .int (iI x2), .int (iI x3), .int (iI x4), .int (iI x5), (va_rf o0), .long y0, .int r0, .int (iI x6), .int (iI x7), .int (iI x8)])), (a1, .inl (T 0, 940, .inl (cI (upz (upz (upz (upz f0 x1 z2) (x1 + 1) z5) ((x1 + 1) + 1) z8) (((x1 + 1) + 1) + 1) z11))))]) M w 0 1 clX8 rfl (by decide) G162 rfl rfl rfl rfl (Nat.le_of_ble_eq_true rfl) rfl dX8_append_40 (fun H locs w => ?_)
          refine lv_iinc (v := iI (-8)) (lv' := [(2, .int (iI (-8))), (0, .ref a0), (1, .int (iI x0))]) hx hb dX8_append_43 hl (k := 0) rfl (by decide +kernel) (by decide) rfl (fun ls hl => ?_)
          refine lv_goto (tgt := 3) hx hb dX8_append_46 (by decide) ?_
          refine lv_iload_n hx hb dX8_append_3 rfl (lv_at hl 0 rfl) ?_
          refine lv_if_lt (tgt := 49) hx hb dX8_append_4 (by decide) (fun _ => ?_) (fun c => absurd (by decide +kernel) c)
          exact ret (((((x1 + 1) + 1) + 1) + 1), (upz (upz (upz (upz f0 x1 z2) (x1 + 1) z5) ((x1 + 1) + 1) z8) (((x1 + 1) + 1) + 1) z11)) _ _ _ _ _ [0, 1] dX8_append_49 ⟨(show 0 ≤ ((((x1 + 1) + 1) + 1) + 1) from by omega), (show ((((x1 + 1) + 1) + 1) + 1) ≤ 940 from by omega), (rng_up (rng_up (rng_up (rng_up f0_h (by omega) (by omega)) (by omega) (by omega)) (by omega) (by omega)) (by omega) (by omega)), (show 0 ≤ ((x1 + 4) - ((((x1 + 1) + 1) + 1) + 1)) from by omega), (show 0 ≤ ((((((x1 + 1) + 1) + 1) + 1) - 4) - x1) from by omega), (show (upz (upz (upz (upz f0 x1 z2) (x1 + 1) z5) ((x1 + 1) + 1) z8) (((x1 + 1) + 1) + 1) z11) = bts f0 x1 x0 from (by rw [hz12, hz9, hz6, hz3]; rfl))⟩ w (by decide) rfl
set_option maxRecDepth 100000 in
set_option maxHeartbeats 4000000 in
theorem c250_X8_take (l : Launch) (D : va_G) (T : Nat → ClassId) (sz : Nat) (a0 : Nat) (x0 : Int) (x1 : Int) (x2 : Int) (x3 : Int) (x4 : Int) (a1 : Nat) (x5 : Int) (x6 : Int) (x7 : Int) (x8 : Int) (x9 : Int) (o0 : Option Nat) (y0 : Int64) (r0 : Int32) (x10 : Int) (x11 : Int) (x12 : Int) (f0 : Int → Int) (x0_a : (-2147483648) ≤ x0) (x0_b : x0 ≤ 2147483647) (x1_a : (-2147483648) ≤ x1) (x1_b : x1 ≤ 2147483647) (x2_a : (-2147483648) ≤ x2) (x2_b : x2 ≤ 2147483647) (x3_a : (-2147483648) ≤ x3) (x3_b : x3 ≤ 2147483647) (x4_a : (-2147483648) ≤ x4) (x4_b : x4 ≤ 2147483647) (x5_a : 0 ≤ x5) (x5_b : x5 ≤ 940) (x6_a : 0 ≤ x6) (x6_b : x6 ≤ 940) (x7_a : 0 ≤ x7) (x7_b : x7 ≤ 940) (x8_a : 0 ≤ x8) (x8_b : x8 ≤ 940) (x9_a : 0 ≤ x9) (x9_b : x9 ≤ 5) (o0_h : wok T o0) (x10_a : (-2147483648) ≤ x10) (x10_b : x10 ≤ 2147483647) (x11_a : (-2147483648) ≤ x11) (x11_b : x11 ≤ 2147483647) (x12_a : 0 ≤ x12) (x12_b : x12 ≤ 940) (f0_h : rng 0 255 f0) : Met l yX8_take (Cond.code yX8_take cX8_take 6 (some .int) :: GW) (Rm 1 0 0) (cPre [.ref a0, .int (iI x0), .int (iI x1), .int (iI x2), .int (iI x3), .int (iI x4)] D T [(a0, .inr (8, [.ref a1, .int (iI x5), .int (iI x6), .int (iI x7), .int (iI x8), .int (iI x9), (va_rf o0), .long y0, .int r0, .int (iI x10), .int (iI x11), .int (iI x12)])), (a1, .inl (T 0, 940, .inl (cI f0)))] sz) (qI D [(a0, .inr (8, [.ref a1, .int (iI x5), .int (iI x6), .int (iI x7), .int (iI x8), .int (iI x9), (va_rf o0), .long y0, .int r0, .int (iI x10), .int (iI x11), .int (iI x12)])), (a1, .inl (T 0, 940, .inl (cI f0)))] sz (fun (v : Int32) (u : Int × Int × (Int → Int)) => iI u.1 = v ∧ (-2147483648) ≤ u.1 ∧ u.1 ≤ 2147483647 ∧ 0 ≤ u.2.1 ∧ u.2.1 ≤ 940 ∧ rng 0 255 u.2.2 ∧ (fdT u.1 x5 u.2.1) ∧ (u.2.2 = fdF f0 x5 x0 x1 x2 x3 x4)) (fun u => [(a0, .inr (8, [.ref a1, .int (iI u.2.1), .int (iI x6), .int (iI x7), .int (iI x8), .int (iI x9), (va_rf o0), .long y0, .int r0, .int (iI x10), .int (iI x11), .int (iI x12)])), (a1, .inl (T 0, 940, .inl (cI u.2.2)))])) 0 0 (va_A [(a0, .inr (8, [.ref a1, .int (iI x5), .int (iI x6), .int (iI x7), .int (iI x8), .int (iI x9), (va_rf o0), .long y0, .int r0, .int (iI x10), .int (iI x11), .int (iI x12)])), (a1, .inl (T 0, 940, .inl (cI f0)))] sz) := by
  refine e_I (by decide) (Nat.le_of_ble_eq_true rfl) ?_
  intro p e s m args below meth c A Q ls M hin w ret hl
  have hx := M.1.1
  have hb := M.1.2.1
  have hl : lv_has ls 6 [(0, .ref a0), (1, .int (iI x0)), (2, .int (iI x1)), (3, .int (iI x2)), (4, .int (iI x3)), (5, .int (iI x4))] := hl
  refine lv_aload_n hx hb dX8_take_0 rfl (lv_at hl 0 rfl) ?_
  refine r_get (v := .int (iI x5)) M w 0 1 clX8 rfl (by decide) G162 rfl rfl dX8_take_1 ?_
  refine lv_bipush (v := iI 20) hx hb dX8_take_4 (by decide +kernel) ?_
  refine r_iadd (v := iI (x5 + 20)) M (iI_add _ _) dX8_take_6 ?_
  refine lv_sipush (v := iI 940) hx hb dX8_take_7 (by decide +kernel) ?_
  refine lv_icmp_le (tgt := 15) hx hb dX8_take_10 (by decide) (fun c_1 => ?_) (fun c_1 => ?_)
  · replace c_1 := (iI_le (by omega) (by omega) (by decide) (by decide)).mp c_1
    refine lv_aload_n hx hb dX8_take_15 rfl (lv_at hl 0 rfl) ?_
    refine lv_iload_n hx hb dX8_take_16 rfl (lv_at hl 1 rfl) ?_
    refine k_V (ce := 0) (sl := 0) (rest := []) (wr := []) (r_V (f := 0) [0, 1] M w V_HookedCity_Tape_51 G559 G0 (c249_X8_append l D T _ a0 x0 a1 x5 x6 x7 x8 x9 o0 y0 r0 x10 x11 x12 f0 x0_a x0_b (by omega) (by omega) x6_a x6_b x7_a x7_b x8_a x8_b x9_a x9_b o0_h x10_a x10_b x11_a x11_b x12_a x12_b f0_h) 0 clX8 rfl rfl (by decide) rfl hl.1 rfl (Nat.le_of_ble_eq_true rfl) dX8_take_17 (by decide) (by decide) (by decide) (by decide)) w [0, 1] [] rfl rfl (by decide) (by decide) rfl rfl (fun u H locs hp w => ?_)
    obtain ⟨z2, ff3⟩ := u
    have z2_a : 0 ≤ z2 := hp.1
    have z2_b : z2 ≤ 940 := hp.2.1
    have ff3_h : rng 0 255 ff3 := hp.2.2.1
    have ee4 : 0 ≤ ((x5 + 4) - z2) := hp.2.2.2.1
    have ee5 : 0 ≤ ((z2 - 4) - x5) := hp.2.2.2.2.1
    have pq6 : ff3 = bts f0 x5 x0 := hp.2.2.2.2.2
    have w : WD D A s.heap [(a0, .inr (8, [.ref a1, .int (iI z2), .int (iI x6), .int (iI x7), .int (iI x8), .int (iI x9), (va_rf o0), .long y0, .int r0, .int (iI x10), .int (iI x11), .int (iI x12)])), (a1, .inl (T 0, 940, .inl (cI ff3)))] H locs := w
    refine lv_aload_n hx hb dX8_take_20 rfl (lv_at hl 0 rfl) ?_
    refine lv_iload_n hx hb dX8_take_21 rfl (lv_at hl 2 rfl) ?_
    refine k_V (ce := 0) (sl := 0) (rest := []) (wr := []) (r_V (f := 0) [0, 1] M w V_HookedCity_Tape_51 G559 G0 (c249_X8_append l D T _ a0 x1 a1 z2 x6 x7 x8 x9 o0 y0 r0 x10 x11 x12 ff3 x1_a x1_b (by omega) (by omega) x6_a x6_b x7_a x7_b x8_a x8_b x9_a x9_b o0_h x10_a x10_b x11_a x11_b x12_a x12_b ff3_h) 0 clX8 rfl rfl (by decide) rfl hl.1 rfl (Nat.le_of_ble_eq_true rfl) dX8_take_22 (by decide) (by decide) (by decide) (by decide)) w [0, 1] [] rfl rfl (by decide) (by decide) rfl rfl (fun u H locs hp w => ?_)
    obtain ⟨z7, ff8⟩ := u
    have z7_a : 0 ≤ z7 := hp.1
    have z7_b : z7 ≤ 940 := hp.2.1
    have ff8_h : rng 0 255 ff8 := hp.2.2.1
    have ee9 : 0 ≤ ((z2 + 4) - z7) := hp.2.2.2.1
    have ee10 : 0 ≤ ((z7 - 4) - z2) := hp.2.2.2.2.1
    have pq11 : ff8 = bts ff3 z2 x1 := hp.2.2.2.2.2
    have w : WD D A s.heap [(a0, .inr (8, [.ref a1, .int (iI z7), .int (iI x6), .int (iI x7), .int (iI x8), .int (iI x9), (va_rf o0), .long y0, .int r0, .int (iI x10), .int (iI x11), .int (iI x12)])), (a1, .inl (T 0, 940, .inl (cI ff8)))] H locs := w
    refine lv_aload_n hx hb dX8_take_25 rfl (lv_at hl 0 rfl) ?_
    refine lv_iload_n hx hb dX8_take_26 rfl (lv_at hl 3 rfl) ?_
    refine k_V (ce := 0) (sl := 0) (rest := []) (wr := []) (r_V (f := 0) [0, 1] M w V_HookedCity_Tape_51 G559 G0 (c249_X8_append l D T _ a0 x2 a1 z7 x6 x7 x8 x9 o0 y0 r0 x10 x11 x12 ff8 x2_a x2_b (by omega) (by omega) x6_a x6_b x7_a x7_b x8_a x8_b x9_a x9_b o0_h x10_a x10_b x11_a x11_b x12_a x12_b ff8_h) 0 clX8 rfl rfl (by decide) rfl hl.1 rfl (Nat.le_of_ble_eq_true rfl) dX8_take_27 (by decide) (by decide) (by decide) (by decide)) w [0, 1] [] rfl rfl (by decide) (by decide) rfl rfl (fun u H locs hp w => ?_)
    obtain ⟨z12, ff13⟩ := u
    have z12_a : 0 ≤ z12 := hp.1
    have z12_b : z12 ≤ 940 := hp.2.1
    have ff13_h : rng 0 255 ff13 := hp.2.2.1
    have ee14 : 0 ≤ ((z7 + 4) - z12) := hp.2.2.2.1
    have ee15 : 0 ≤ ((z12 - 4) - z7) := hp.2.2.2.2.1
    have pq16 : ff13 = bts ff8 z7 x2 := hp.2.2.2.2.2
    have w : WD D A s.heap [(a0, .inr (8, [.ref a1, .int (iI z12), .int (iI x6), .int (iI x7), .int (iI x8), .int (iI x9), (va_rf o0), .long y0, .int r0, .int (iI x10), .int (iI x11), .int (iI x12)])), (a1, .inl (T 0, 940, .inl (cI ff13)))] H locs := w
    refine lv_aload_n hx hb dX8_take_30 rfl (lv_at hl 0 rfl) ?_
    refine lv_iload hx hb dX8_take_31 (lv_at hl 4 rfl) ?_
    refine k_V (ce := 0) (sl := 0) (rest := []) (wr := []) (r_V (f := 0) [0, 1] M w V_HookedCity_Tape_51 G559 G0 (c249_X8_append l D T _ a0 x3 a1 z12 x6 x7 x8 x9 o0 y0 r0 x10 x11 x12 ff13 x3_a x3_b (by omega) (by omega) x6_a x6_b x7_a x7_b x8_a x8_b x9_a x9_b o0_h x10_a x10_b x11_a x11_b x12_a x12_b ff13_h) 0 clX8 rfl rfl (by decide) rfl hl.1 rfl (Nat.le_of_ble_eq_true rfl) dX8_take_33 (by decide) (by decide) (by decide) (by decide)) w [0, 1] [] rfl rfl (by decide) (by decide) rfl rfl (fun u H locs hp w => ?_)
    obtain ⟨z17, ff18⟩ := u
    have z17_a : 0 ≤ z17 := hp.1
    have z17_b : z17 ≤ 940 := hp.2.1
    have ff18_h : rng 0 255 ff18 := hp.2.2.1
    have ee19 : 0 ≤ ((z12 + 4) - z17) := hp.2.2.2.1
    have ee20 : 0 ≤ ((z17 - 4) - z12) := hp.2.2.2.2.1
    have pq21 : ff18 = bts ff13 z12 x3 := hp.2.2.2.2.2
    have w : WD D A s.heap [(a0, .inr (8, [.ref a1, .int (iI z17), .int (iI x6), .int (iI x7), .int (iI x8), .int (iI x9), (va_rf o0), .long y0, .int r0, .int (iI x10), .int (iI x11), .int (iI x12)])), (a1, .inl (T 0, 940, .inl (cI ff18)))] H locs := w
    refine lv_aload_n hx hb dX8_take_36 rfl (lv_at hl 0 rfl) ?_
    refine lv_iload hx hb dX8_take_37 (lv_at hl 5 rfl) ?_
    refine k_V (ce := 0) (sl := 0) (rest := []) (wr := []) (r_V (f := 0) [0, 1] M w V_HookedCity_Tape_51 G559 G0 (c249_X8_append l D T _ a0 x4 a1 z17 x6 x7 x8 x9 o0 y0 r0 x10 x11 x12 ff18 x4_a x4_b (by omega) (by omega) x6_a x6_b x7_a x7_b x8_a x8_b x9_a x9_b o0_h x10_a x10_b x11_a x11_b x12_a x12_b ff18_h) 0 clX8 rfl rfl (by decide) rfl hl.1 rfl (Nat.le_of_ble_eq_true rfl) dX8_take_39 (by decide) (by decide) (by decide) (by decide)) w [0, 1] [] rfl rfl (by decide) (by decide) rfl rfl (fun u H locs hp w => ?_)
    obtain ⟨z22, ff23⟩ := u
    have z22_a : 0 ≤ z22 := hp.1
    have z22_b : z22 ≤ 940 := hp.2.1
    have ff23_h : rng 0 255 ff23 := hp.2.2.1
    have ee24 : 0 ≤ ((z17 + 4) - z22) := hp.2.2.2.1
    have ee25 : 0 ≤ ((z22 - 4) - z17) := hp.2.2.2.2.1
    have pq26 : ff23 = bts ff18 z17 x4 := hp.2.2.2.2.2
    have w : WD D A s.heap [(a0, .inr (8, [.ref a1, .int (iI z22), .int (iI x6), .int (iI x7), .int (iI x8), .int (iI x9), (va_rf o0), .long y0, .int r0, .int (iI x10), .int (iI x11), .int (iI x12)])), (a1, .inl (T 0, 940, .inl (cI ff23)))] H locs := w
    refine lv_aload_n hx hb dX8_take_42 rfl (lv_at hl 0 rfl) ?_
    refine r_get (v := .int (iI z22)) M w 0 1 clX8 rfl (by decide) G162 rfl rfl dX8_take_43 ?_
    exact ret _ (z22, z22, ff23) _ _ _ _ _ [0, 1] dX8_take_46 ⟨rfl, (show (-2147483648) ≤ z22 from by omega), (show z22 ≤ 2147483647 from by omega), z22_a, z22_b, ff23_h, (show fdT z22 x5 z22 from (by unfold fdT; omega)), (show ff23 = fdF f0 x5 x0 x1 x2 x3 x4 from (by unfold fdF; rw [if_pos (by omega), pq26, pq21, pq16, pq11, pq6, show z2 = x5 + 4 by omega, show z7 = x5 + 8 by omega, show z12 = x5 + 12 by omega, show z17 = x5 + 16 by omega]))⟩ w (by decide) rfl
  · replace c_1 : 940 < (x5 + 20) := Int.not_le.mp (fun h => c_1 ((iI_le (by omega) (by omega) (by decide) (by decide)).mpr h))
    refine lv_iconst (v := iI (-1)) hx hb dX8_take_13 (by decide +kernel) ?_
    exact ret _ ((-1), x5, f0) _ _ _ _ _ [0, 1] dX8_take_14 ⟨rfl, (show (-2147483648) ≤ (-1) from by decide), (show ((-1) : Int) ≤ 2147483647 from by decide), x5_a, x5_b, f0_h, (show fdT (-1) x5 x5 from (by unfold fdT; omega)), (show f0 = fdF f0 x5 x0 x1 x2 x3 x4 from (by unfold fdF; rw [if_neg (by omega)]))⟩ w (by decide) rfl
set_option maxRecDepth 100000 in
set_option maxHeartbeats 4000000 in
theorem c251_X8_cut (l : Launch) (D : va_G) (T : Nat → ClassId) (sz : Nat) (a0 : Nat) (x0 : Int) (a1 : Nat) (x1 : Int) (x2 : Int) (x3 : Int) (x4 : Int) (x5 : Int) (o0 : Option Nat) (y0 : Int64) (r0 : Int32) (x6 : Int) (x7 : Int) (x8 : Int) (x0_a : (-2147483648) ≤ x0) (x0_b : x0 ≤ 2147483647) (x1_a : 0 ≤ x1) (x1_b : x1 ≤ 940) (x2_a : 0 ≤ x2) (x2_b : x2 ≤ 940) (x3_a : 0 ≤ x3) (x3_b : x3 ≤ 940) (x4_a : 0 ≤ x4) (x4_b : x4 ≤ 940) (x5_a : 0 ≤ x5) (x5_b : x5 ≤ 5) (o0_h : wok T o0) (x6_a : (-2147483648) ≤ x6) (x6_b : x6 ≤ 2147483647) (x7_a : (-2147483648) ≤ x7) (x7_b : x7 ≤ 2147483647) (x8_a : 0 ≤ x8) (x8_b : x8 ≤ 940) : Met l yX8_cut (Cond.code yX8_cut cX8_cut 2 (some .boolean) :: GW) (Rm 0 0 0) (cPre [.ref a0, .int (iI x0)] D T [(a0, .inr (8, [.ref a1, .int (iI x1), .int (iI x2), .int (iI x3), .int (iI x4), .int (iI x5), (va_rf o0), .long y0, .int r0, .int (iI x6), .int (iI x7), .int (iI x8)]))] sz) (qI D [(a0, .inr (8, [.ref a1, .int (iI x1), .int (iI x2), .int (iI x3), .int (iI x4), .int (iI x5), (va_rf o0), .long y0, .int r0, .int (iI x6), .int (iI x7), .int (iI x8)]))] sz (fun (v : Int32) (u : Int × Int) => iI u.1 = v ∧ 0 ≤ u.1 ∧ u.1 ≤ 1 ∧ 0 ≤ u.2 ∧ u.2 ≤ 940 ∧ (enT u.1 x0 x1 u.2)) (fun u => [(a0, .inr (8, [.ref a1, .int (iI u.2), .int (iI x2), .int (iI x3), .int (iI x4), .int (iI x5), (va_rf o0), .long y0, .int r0, .int (iI x6), .int (iI x7), .int (iI x8)]))])) 0 0 (va_A [(a0, .inr (8, [.ref a1, .int (iI x1), .int (iI x2), .int (iI x3), .int (iI x4), .int (iI x5), (va_rf o0), .long y0, .int r0, .int (iI x6), .int (iI x7), .int (iI x8)]))] sz) := by
  refine e_Z (by decide) (Nat.le_of_ble_eq_true rfl) ?_
  intro p e s m args below meth c A Q ls M hin w ret hl
  have hx := M.1.1
  have hb := M.1.2.1
  have hl : lv_has ls 2 [(0, .ref a0), (1, .int (iI x0))] := hl
  refine lv_iload_n hx hb dX8_cut_0 rfl (lv_at hl 1 rfl) ?_
  refine lv_if_lt (tgt := 12) hx hb dX8_cut_1 (by decide) (fun c_1 => ?_) (fun c_1 => ?_)
  · replace c_1 := (iz_lt (Int.le_trans (by decide) x0_a) (Int.le_trans x0_b (by decide))).mp c_1
    refine lv_iconst (v := iI 0) hx hb dX8_cut_12 (by decide +kernel) ?_
    exact ret _ (0, x1) _ _ _ _ _ [0] dX8_cut_13 (by decide +kernel) ⟨rfl, (show (0 : Int) ≤ 0 from by decide), (show (0 : Int) ≤ 1 from by decide), x1_a, x1_b, (show enT 0 x0 x1 x1 from (by unfold enT; omega))⟩ w (by decide) rfl
  · replace c_1 : 0 ≤ x0 := Int.not_lt.mp (fun h => c_1 ((iz_lt (Int.le_trans (by decide) x0_a) (Int.le_trans x0_b (by decide))).mpr h))
    refine lv_iload_n hx hb dX8_cut_4 rfl (lv_at hl 1 rfl) ?_
    refine lv_aload_n hx hb dX8_cut_5 rfl (lv_at hl 0 rfl) ?_
    refine r_get (v := .int (iI x1)) M w 0 1 clX8 rfl (by decide) G162 rfl rfl dX8_cut_6 ?_
    refine lv_icmp_le (tgt := 14) hx hb dX8_cut_9 (by decide) (fun c_2 => ?_) (fun c_2 => ?_)
    · replace c_2 := (iI_le (Int.le_trans (by decide) x0_a) (Int.le_trans x0_b (by decide)) (Int.le_trans (by decide) x1_a) (Int.le_trans x1_b (by decide))).mp c_2
      refine lv_aload_n hx hb dX8_cut_14 rfl (lv_at hl 0 rfl) ?_
      refine lv_iload_n hx hb dX8_cut_15 rfl (lv_at hl 1 rfl) ?_
      refine r_put (ws' := [(a0, .inr (8, [.ref a1, .int (iI x0), .int (iI x2), .int (iI x3), .int (iI x4), .int (iI x5), (va_rf o0), .long y0, .int r0, .int (iI x6), .int (iI x7), .int (iI x8)]))]) M w 0 1 clX8 rfl (by decide) G162 rfl rfl rfl rfl (Nat.le_of_ble_eq_true rfl) rfl dX8_cut_16 (fun H locs w => ?_)
      refine lv_iconst (v := iI 1) hx hb dX8_cut_19 (by decide +kernel) ?_
      exact ret _ (1, x0) _ _ _ _ _ [0] dX8_cut_20 (by decide +kernel) ⟨rfl, (show (0 : Int) ≤ 1 from by decide), (show (1 : Int) ≤ 1 from by decide), (show 0 ≤ x0 from by omega), (show x0 ≤ 940 from by omega), (show enT 1 x0 x1 x0 from (by unfold enT; omega))⟩ w (by decide) rfl
    · replace c_2 : x1 < x0 := Int.not_le.mp (fun h => c_2 ((iI_le (Int.le_trans (by decide) x0_a) (Int.le_trans x0_b (by decide)) (Int.le_trans (by decide) x1_a) (Int.le_trans x1_b (by decide))).mpr h))
      refine lv_iconst (v := iI 0) hx hb dX8_cut_12 (by decide +kernel) ?_
      exact ret _ (0, x1) _ _ _ _ _ [0] dX8_cut_13 (by decide +kernel) ⟨rfl, (show (0 : Int) ≤ 0 from by decide), (show (0 : Int) ≤ 1 from by decide), x1_a, x1_b, (show enT 0 x0 x1 x1 from (by unfold enT; omega))⟩ w (by decide) rfl
set_option maxRecDepth 100000 in
set_option maxHeartbeats 4000000 in
theorem c252_X8_empty (l : Launch) (D : va_G) (T : Nat → ClassId) (sz : Nat) (a0 : Nat) (a1 : Nat) (x0 : Int) (x1 : Int) (x2 : Int) (x3 : Int) (x4 : Int) (o0 : Option Nat) (y0 : Int64) (r0 : Int32) (x5 : Int) (x6 : Int) (x7 : Int) (x0_a : 0 ≤ x0) (x0_b : x0 ≤ 940) (x1_a : 0 ≤ x1) (x1_b : x1 ≤ 940) (x2_a : 0 ≤ x2) (x2_b : x2 ≤ 940) (x3_a : 0 ≤ x3) (x3_b : x3 ≤ 940) (x4_a : 0 ≤ x4) (x4_b : x4 ≤ 5) (o0_h : wok T o0) (x5_a : (-2147483648) ≤ x5) (x5_b : x5 ≤ 2147483647) (x6_a : (-2147483648) ≤ x6) (x6_b : x6 ≤ 2147483647) (x7_a : 0 ≤ x7) (x7_b : x7 ≤ 940) : Met l yX8_empty (Cond.code yX8_empty cX8_empty 1 none :: GW) (Rm 0 0 0) (cPre [.ref a0] D T [(a0, .inr (8, [.ref a1, .int (iI x0), .int (iI x1), .int (iI x2), .int (iI x3), .int (iI x4), (va_rf o0), .long y0, .int r0, .int (iI x5), .int (iI x6), .int (iI x7)]))] sz) (qV D [(a0, .inr (8, [.ref a1, .int (iI x0), .int (iI x1), .int (iI x2), .int (iI x3), .int (iI x4), (va_rf o0), .long y0, .int r0, .int (iI x5), .int (iI x6), .int (iI x7)]))] sz (fun (u : Int) => 0 ≤ u ∧ u ≤ 940 ∧ 0 ≤ (0 - u)) (fun u => [(a0, .inr (8, [.ref a1, .int (iI u), .int (iI x1), .int (iI x2), .int (iI x3), .int (iI x4), (va_rf o0), .long y0, .int r0, .int (iI x5), .int (iI x6), .int (iI x7)]))])) 0 0 (va_A [(a0, .inr (8, [.ref a1, .int (iI x0), .int (iI x1), .int (iI x2), .int (iI x3), .int (iI x4), (va_rf o0), .long y0, .int r0, .int (iI x5), .int (iI x6), .int (iI x7)]))] sz) := by
  refine e_V (by decide) (Nat.le_of_ble_eq_true rfl) ?_
  intro p e s m args below meth c A Q ls M hin w ret hl
  have hx := M.1.1
  have hb := M.1.2.1
  have hl : lv_has ls 1 [(0, .ref a0)] := hl
  refine lv_aload_n hx hb dX8_empty_0 rfl (lv_at hl 0 rfl) ?_
  refine lv_iconst (v := iI 0) hx hb dX8_empty_1 (by decide +kernel) ?_
  refine r_put (ws' := [(a0, .inr (8, [.ref a1, .int (iI 0), .int (iI x1), .int (iI x2), .int (iI x3), .int (iI x4), (va_rf o0), .long y0, .int r0, .int (iI x5), .int (iI x6), .int (iI x7)]))]) M w 0 1 clX8 rfl (by decide) G162 rfl rfl rfl rfl (Nat.le_of_ble_eq_true rfl) rfl dX8_empty_2 (fun H locs w => ?_)
  exact ret 0 _ _ _ _ _ [0] dX8_empty_5 ⟨(show (0 : Int) ≤ 0 from by decide), (show (0 : Int) ≤ 940 from by decide), (show 0 ≤ (0 - 0) from by omega)⟩ w (by decide) rfl
set_option maxRecDepth 100000 in
set_option maxHeartbeats 4000000 in
theorem c253_X8_isLetter (l : Launch) (D : va_G) (T : Nat → ClassId) (sz : Nat) (x0 : Int) (x0_a : (-2147483648) ≤ x0) (x0_b : x0 ≤ 2147483647) : Met l yX8_isLetter (Cond.code yX8_isLetter cX8_isLetter 1 (some .boolean) :: GW) (Rm 0 0 0) (cPre [.int (iI x0)] D T [] sz) (qI D [] sz (fun (v : Int32) (u : Int) => iI u = v ∧ 0 ≤ u ∧ u ≤ 1 ∧ (lq u x0 97 122)) (fun u => [])) 0 0 (va_A [] sz) := by
  refine e_Z (by decide) (Nat.le_of_ble_eq_true rfl) ?_
  intro p e s m args below meth c A Q ls M hin w ret hl
  have hx := M.1.1
  have hb := M.1.2.1
  have hl : lv_has ls 1 [(0, .int (iI x0))] := hl
  refine lv_iload_n hx hb dX8_isLetter_0 rfl (lv_at hl 0 rfl) ?_
  refine lv_bipush (v := iI 97) hx hb dX8_isLetter_1 (by decide +kernel) ?_
  refine lv_icmp_lt (tgt := 16) hx hb dX8_isLetter_3 (by decide) (fun c_1 => ?_) (fun c_1 => ?_)
  · replace c_1 := (iI_lt (Int.le_trans (by decide) x0_a) (Int.le_trans x0_b (by decide)) (by decide) (by decide)).mp c_1
    refine lv_iconst (v := iI 0) hx hb dX8_isLetter_16 (by decide +kernel) ?_
    exact ret _ 0 _ _ _ _ _ [] dX8_isLetter_17 (by decide +kernel) ⟨rfl, (show (0 : Int) ≤ 0 from by decide), (show (0 : Int) ≤ 1 from by decide), (show lq 0 x0 97 122 from (by unfold lq; omega))⟩ w (by decide) rfl
  · replace c_1 : 97 ≤ x0 := Int.not_lt.mp (fun h => c_1 ((iI_lt (Int.le_trans (by decide) x0_a) (Int.le_trans x0_b (by decide)) (by decide) (by decide)).mpr h))
    refine lv_iload_n hx hb dX8_isLetter_6 rfl (lv_at hl 0 rfl) ?_
    refine lv_bipush (v := iI 122) hx hb dX8_isLetter_7 (by decide +kernel) ?_
    refine lv_icmp_gt (tgt := 16) hx hb dX8_isLetter_9 (by decide) (fun c_2 => ?_) (fun c_2 => ?_)
    · replace c_2 := (iI_lt (by decide) (by decide) (Int.le_trans (by decide) x0_a) (Int.le_trans x0_b (by decide))).mp c_2
      refine lv_iconst (v := iI 0) hx hb dX8_isLetter_16 (by decide +kernel) ?_
      exact ret _ 0 _ _ _ _ _ [] dX8_isLetter_17 (by decide +kernel) ⟨rfl, (show (0 : Int) ≤ 0 from by decide), (show (0 : Int) ≤ 1 from by decide), (show lq 0 x0 97 122 from (by unfold lq; omega))⟩ w (by decide) rfl
    · replace c_2 : x0 ≤ 122 := Int.not_lt.mp (fun h => c_2 ((iI_lt (by decide) (by decide) (Int.le_trans (by decide) x0_a) (Int.le_trans x0_b (by decide))).mpr h))
      refine lv_iconst (v := iI 1) hx hb dX8_isLetter_12 (by decide +kernel) ?_
      refine lv_goto (tgt := 17) hx hb dX8_isLetter_13 (by decide) ?_
      exact ret _ 1 _ _ _ _ _ [] dX8_isLetter_17 (by decide +kernel) ⟨rfl, (show (0 : Int) ≤ 1 from by decide), (show (1 : Int) ≤ 1 from by decide), (show lq 1 x0 97 122 from (by unfold lq; omega))⟩ w (by decide) rfl
set_option maxRecDepth 100000 in
set_option maxHeartbeats 4000000 in
theorem c254_X10_spelt (l : Launch) (D : va_G) (T : Nat → ClassId) (sz : Nat) (y0 : Int64) : Met l yX10_spelt (Cond.code yX10_spelt cX10_spelt 3 (some (.object "HookedCity$Word")) :: GW) (Rm 0 0 0) (cPre [.long y0] D T [] sz) (qQ D [] sz (fun (v : Option Nat) (u : Option Nat) => u = v ∧ wok T u ∧ (spR T y0 u)) (fun u => [])) 0 0 (va_A [] sz) := by
  refine e_Q (by decide) (Nat.le_of_ble_eq_true rfl) ?_
  intro p e s m args below meth c A Q ls M hin w ret hl
  have hx := M.1.1
  have hb := M.1.2.1
  have hl : lv_has ls 3 [(0, .long y0)] := hl
  refine lv_iconst (v := iI 0) hx hb dX10_spelt_0 (by decide +kernel) ?_
  refine lv_istore_n (lv' := [(2, .int (iI 0)), (0, .long y0)]) hx hb dX10_spelt_1 rfl hl (by decide) rfl (fun ls hl => ?_)
  have loop1 : ∀ (k1 : Nat) (z1 : Int) (H : Heap) (locs : List Loc) (ls : Array Slot), 0 ≤ z1 → z1 ≤ 27 → (∀ j : Nat, (j : Int) < z1 → wltF j ≠ y0) → ((27 - z1) : Int).toNat < k1 → WD D A s.heap [] H locs → lv_has ls 3 [(2, .int (iI z1)), (0, .long y0)] → W p l e (Rm 0 0 0) s m args below meth c H locs 0 0 Q (F0 m 2 ls []) := by
    intro k1
    induction k1 with
    | zero => intro z1 H locs ls z1_a z1_b lq1_s hm; exact absurd hm (Nat.not_lt_zero _)
    | succ k1 ih1 =>
      intro z1 H locs ls z1_a z1_b lq1_s hm1 w hl
      refine lv_iload_n hx hb dX10_spelt_2 rfl (lv_at hl 0 rfl) ?_
      refine r_getAll M w G606 dX10_spelt_3 ?_
      refine r_allLen M w dX10_spelt_6 ?_
      refine lv_icmp_ge (tgt := 35) hx hb dX10_spelt_7 (by decide) (fun c_2 => ?_) (fun c_2 => ?_)
      · replace c_2 := (iI_le (by decide) (by decide) (Int.le_trans (by decide) z1_a) (Int.le_trans z1_b (by decide))).mp c_2
        refine lv_null hx hb dX10_spelt_35 ?_
        exact ret none none _ _ _ _ _ [] dX10_spelt_36 ⟨rfl, wok_n, (show spR T y0 none from (Or.inl ⟨rfl, fun k hk => lq1_s k (by omega)⟩))⟩ w (by decide) rfl
      · replace c_2 : z1 < 27 := Int.not_le.mp (fun h => c_2 ((iI_le (by decide) (by decide) (Int.le_trans (by decide) z1_a) (Int.le_trans z1_b (by decide))).mpr h))
        refine r_getAll M w G606 dX10_spelt_10 ?_
        refine lv_iload_n hx hb dX10_spelt_13 rfl (lv_at hl 0 rfl) ?_
        refine r_allAtX M w (by omega) (by omega) dX10_spelt_14 ?_
        refine r_wletX M w (k := (Int.toNat z1)) (by omega) G2084 dX10_spelt_15 ?_
        refine lv_lload_n hx hb dX10_spelt_18 rfl (lv_at hl 1 rfl) ?_
        refine r_lcmp (v := lg_cmp (wltF (Int.toNat z1)) y0) M rfl dX10_spelt_19 ?_
        refine lv_if_ne (tgt := 29) hx hb dX10_spelt_20 (by decide) (fun c_3 => ?_) (fun c_3 => ?_)
        · refine lv_iinc (v := iI (z1 + 1)) (lv' := [(2, .int (iI (z1 + 1))), (0, .long y0)]) hx hb dX10_spelt_29 hl (k := 0) rfl (ii_inc (by decide +kernel)) (by decide) rfl (fun ls hl => ?_)
          refine lv_goto (tgt := 2) hx hb dX10_spelt_32 (by decide) ?_
          exact ih1 (z1 + 1) _ _ _ (by omega) (by omega) (sp_l lq1_s (by omega) c_3) (by omega) w (lv_sub hl [0, 1] rfl)
        · refine r_getAll M w G606 dX10_spelt_23 ?_
          refine lv_iload_n hx hb dX10_spelt_26 rfl (lv_at hl 0 rfl) ?_
          refine r_allAtX M w (by omega) (by omega) dX10_spelt_27 ?_
          exact ret (some (T (10 + (Int.toNat z1)))) (some (T (10 + (Int.toNat z1)))) _ _ _ _ _ [] dX10_spelt_28 ⟨rfl, (wok_k (Int.toNat z1) (by omega)), (show spR T y0 (some (T (10 + (Int.toNat z1)))) from (Or.inr ⟨(Int.toNat z1), by omega, rfl, (lg_cmp_eq _ _).mp c_3⟩))⟩ w (by decide) rfl
  exact loop1 ((27 : Int).toNat + 1) 0 _ _ _ (by decide) (by decide) (fun j hj => absurd hj (by omega)) (Nat.lt_succ_self _) w (lv_sub hl [0, 1] rfl)
set_option maxRecDepth 100000 in
set_option maxHeartbeats 4000000 in
theorem c255_X8_isDigit (l : Launch) (D : va_G) (T : Nat → ClassId) (sz : Nat) (x0 : Int) (x0_a : (-2147483648) ≤ x0) (x0_b : x0 ≤ 2147483647) : Met l yX8_isDigit (Cond.code yX8_isDigit cX8_isDigit 1 (some .boolean) :: GW) (Rm 0 0 0) (cPre [.int (iI x0)] D T [] sz) (qI D [] sz (fun (v : Int32) (u : Int) => iI u = v ∧ 0 ≤ u ∧ u ≤ 1 ∧ (lq u x0 48 57)) (fun u => [])) 0 0 (va_A [] sz) := by
  refine e_Z (by decide) (Nat.le_of_ble_eq_true rfl) ?_
  intro p e s m args below meth c A Q ls M hin w ret hl
  have hx := M.1.1
  have hb := M.1.2.1
  have hl : lv_has ls 1 [(0, .int (iI x0))] := hl
  refine lv_iload_n hx hb dX8_isDigit_0 rfl (lv_at hl 0 rfl) ?_
  refine lv_bipush (v := iI 48) hx hb dX8_isDigit_1 (by decide +kernel) ?_
  refine lv_icmp_lt (tgt := 16) hx hb dX8_isDigit_3 (by decide) (fun c_1 => ?_) (fun c_1 => ?_)
  · replace c_1 := (iI_lt (Int.le_trans (by decide) x0_a) (Int.le_trans x0_b (by decide)) (by decide) (by decide)).mp c_1
    refine lv_iconst (v := iI 0) hx hb dX8_isDigit_16 (by decide +kernel) ?_
    exact ret _ 0 _ _ _ _ _ [] dX8_isDigit_17 (by decide +kernel) ⟨rfl, (show (0 : Int) ≤ 0 from by decide), (show (0 : Int) ≤ 1 from by decide), (show lq 0 x0 48 57 from (by unfold lq; omega))⟩ w (by decide) rfl
  · replace c_1 : 48 ≤ x0 := Int.not_lt.mp (fun h => c_1 ((iI_lt (Int.le_trans (by decide) x0_a) (Int.le_trans x0_b (by decide)) (by decide) (by decide)).mpr h))
    refine lv_iload_n hx hb dX8_isDigit_6 rfl (lv_at hl 0 rfl) ?_
    refine lv_bipush (v := iI 57) hx hb dX8_isDigit_7 (by decide +kernel) ?_
    refine lv_icmp_gt (tgt := 16) hx hb dX8_isDigit_9 (by decide) (fun c_2 => ?_) (fun c_2 => ?_)
    · replace c_2 := (iI_lt (by decide) (by decide) (Int.le_trans (by decide) x0_a) (Int.le_trans x0_b (by decide))).mp c_2
      refine lv_iconst (v := iI 0) hx hb dX8_isDigit_16 (by decide +kernel) ?_
      exact ret _ 0 _ _ _ _ _ [] dX8_isDigit_17 (by decide +kernel) ⟨rfl, (show (0 : Int) ≤ 0 from by decide), (show (0 : Int) ≤ 1 from by decide), (show lq 0 x0 48 57 from (by unfold lq; omega))⟩ w (by decide) rfl
    · replace c_2 : x0 ≤ 57 := Int.not_lt.mp (fun h => c_2 ((iI_lt (by decide) (by decide) (Int.le_trans (by decide) x0_a) (Int.le_trans x0_b (by decide))).mpr h))
      refine lv_iconst (v := iI 1) hx hb dX8_isDigit_12 (by decide +kernel) ?_
      refine lv_goto (tgt := 17) hx hb dX8_isDigit_13 (by decide) ?_
      exact ret _ 1 _ _ _ _ _ [] dX8_isDigit_17 (by decide +kernel) ⟨rfl, (show (0 : Int) ≤ 1 from by decide), (show (1 : Int) ≤ 1 from by decide), (show lq 1 x0 48 57 from (by unfold lq; omega))⟩ w (by decide) rfl
set_option maxRecDepth 100000 in
set_option maxHeartbeats 4000000 in
theorem c256_X8_longer (l : Launch) (D : va_G) (T : Nat → ClassId) (sz : Nat) (y0 : Int64) (x0 : Int) (x0_a : 0 ≤ x0) (x0_b : x0 ≤ 255) : Met l yX8_longer (Cond.code yX8_longer cX8_longer 3 (some .long) :: GW) (Rm 0 0 0) (cPre [.long y0, .int (iI x0)] D T [] sz) (qL D [] sz (fun (v : Int64) (u : Unit) => (97 ≤ x0 → x0 ≤ 122 → v = y0 * 32 + lI (x0 - 96))) (fun u => [])) 0 0 (va_A [] sz) := by
  refine e_L (by decide) (Nat.le_of_ble_eq_true rfl) ?_
  intro p e s m args below meth c A Q ls M hin w ret hl
  have hx := M.1.1
  have hb := M.1.2.1
  have hl : lv_has ls 3 [(0, .long y0), (2, .int (iI x0))] := hl
  refine lv_lload_n hx hb dX8_longer_0 rfl (lv_at hl 0 rfl) ?_
  refine lv_iconst (v := iI 5) hx hb dX8_longer_1 (by decide +kernel) ?_
  refine lv_lshl (v := (y0 <<< ((Int32.toInt64 (iI 5)) &&& 63))) hx hb dX8_longer_2 rfl ?_
  refine lv_iload_n hx hb dX8_longer_3 rfl (lv_at hl 1 rfl) ?_
  refine lv_bipush (v := iI 97) hx hb dX8_longer_4 (by decide +kernel) ?_
  refine r_isub (v := iI (x0 - 97)) M (iI_sub _ _) dX8_longer_6 ?_
  refine lv_iconst (v := iI 1) hx hb dX8_longer_7 (by decide +kernel) ?_
  refine r_iadd (v := iI ((x0 - 97) + 1)) M (iI_add _ _) dX8_longer_8 ?_
  refine lv_i2l (v := (Int32.toInt64 (iI ((x0 - 97) + 1)))) hx hb dX8_longer_9 rfl ?_
  refine r_lor (v := ((y0 <<< ((Int32.toInt64 (iI 5)) &&& 63)) ||| (Int32.toInt64 (iI ((x0 - 97) + 1))))) M rfl dX8_longer_10 ?_
  exact ret _ () _ _ _ _ _ [] dX8_longer_11 (show 97 ≤ x0 → x0 ≤ 122 → ((y0 <<< ((Int32.toInt64 (iI 5)) &&& 63)) ||| (Int32.toInt64 (iI ((x0 - 97) + 1)))) = y0 * 32 + lI (x0 - 96) from (fun a b => lgr_x a b)) w (by decide) rfl
set_option maxRecDepth 100000 in
set_option maxHeartbeats 4000000 in
theorem c257_X8_readRun (l : Launch) (D : va_G) (T : Nat → ClassId) (sz : Nat) (a0 : Nat) (a1 : Nat) (x0 : Int) (x1 : Int) (x2 : Int) (x3 : Int) (x4 : Int) (o0 : Option Nat) (y0 : Int64) (r0 : Int32) (x5 : Int) (x6 : Int) (x7 : Int) (f0 : Int → Int) (x0_a : 0 ≤ x0) (x0_b : x0 ≤ 940) (x1_a : 0 ≤ x1) (x1_b : x1 ≤ 940) (x2_a : 0 ≤ x2) (x2_b : x2 ≤ 940) (x3_a : 0 ≤ x3) (x3_b : x3 ≤ 940) (x4_a : 0 ≤ x4) (x4_b : x4 ≤ 5) (o0_h : wok T o0) (x5_a : (-2147483648) ≤ x5) (x5_b : x5 ≤ 2147483647) (x6_a : (-2147483648) ≤ x6) (x6_b : x6 ≤ 2147483647) (x7_a : 0 ≤ x7) (x7_b : x7 ≤ 940) (f0_h : rng 0 255 f0) : Met l yX8_readRun (Cond.code yX8_readRun cX8_readRun 4 none :: GW) (Rm 1 0 0) (cPre [.ref a0] D T [(a0, .inr (8, [.ref a1, .int (iI x0), .int (iI x1), .int (iI x2), .int (iI x3), .int (iI x4), (va_rf o0), .long y0, .int r0, .int (iI x5), .int (iI x6), .int (iI x7)])), (a1, .inl (T 0, 940, .inl (cI f0)))] sz) (qV D [(a0, .inr (8, [.ref a1, .int (iI x0), .int (iI x1), .int (iI x2), .int (iI x3), .int (iI x4), (va_rf o0), .long y0, .int r0, .int (iI x5), .int (iI x6), .int (iI x7)])), (a1, .inl (T 0, 940, .inl (cI f0)))] sz (fun (u : Int × Int × Option Nat × Int64 × Int32) => 0 ≤ u.1 ∧ u.1 ≤ 940 ∧ 0 ≤ u.2.1 ∧ u.2.1 ≤ 5 ∧ wok T u.2.2.1 ∧ (o0 = none → cR T f0 x0 x2 u.2.1 u.1 u.2.2.2.1 u.2.2.2.2 u.2.2.1)) (fun u => [(a0, .inr (8, [.ref a1, .int (iI x0), .int (iI x1), .int (iI u.1), .int (iI x3), .int (iI u.2.1), (va_rf u.2.2.1), .long u.2.2.2.1, .int u.2.2.2.2, .int (iI x5), .int (iI x6), .int (iI x7)])), (a1, .inl (T 0, 940, .inl (cI f0)))])) 0 0 (va_A [(a0, .inr (8, [.ref a1, .int (iI x0), .int (iI x1), .int (iI x2), .int (iI x3), .int (iI x4), (va_rf o0), .long y0, .int r0, .int (iI x5), .int (iI x6), .int (iI x7)])), (a1, .inl (T 0, 940, .inl (cI f0)))] sz) := by
  refine e_V (by decide) (Nat.le_of_ble_eq_true rfl) ?_
  intro p e s m args below meth c A Q ls M hin w ret hl
  have hx := M.1.1
  have hb := M.1.2.1
  have hl : lv_has ls 4 [(0, .ref a0)] := hl
  refine lv_iconst (v := iI 0) hx hb dX8_readRun_0 (by decide +kernel) ?_
  refine lv_istore_n (lv' := [(1, .int (iI 0)), (0, .ref a0)]) hx hb dX8_readRun_1 rfl hl (by decide) rfl (fun ls hl => ?_)
  refine lv_iconst (v := iI 0) hx hb dX8_readRun_2 (by decide +kernel) ?_
  refine lv_istore_n (lv' := [(2, .int (iI 0)), (1, .int (iI 0)), (0, .ref a0)]) hx hb dX8_readRun_3 rfl hl (by decide) rfl (fun ls hl => ?_)
  refine lv_aload_n hx hb dX8_readRun_4 rfl (lv_at hl 2 rfl) ?_
  refine lv_lconst (v := 0) hx hb dX8_readRun_5 (by decide) ?_
  refine r_put (ws' := [(a0, .inr (8, [.ref a1, .int (iI x0), .int (iI x1), .int (iI x2), .int (iI x3), .int (iI x4), (va_rf o0), .long 0, .int r0, .int (iI x5), .int (iI x6), .int (iI x7)])), (a1, .inl (T 0, 940, .inl (cI f0)))]) M w 0 7 clX8 rfl (by decide) G174 rfl rfl rfl rfl (Nat.le_of_ble_eq_true rfl) rfl dX8_readRun_6 (fun H locs w => ?_)
  refine lv_aload_n hx hb dX8_readRun_9 rfl (lv_at hl 2 rfl) ?_
  refine lv_iconst (v := iI 0) hx hb dX8_readRun_10 (by decide +kernel) ?_
  refine r_put (ws' := [(a0, .inr (8, [.ref a1, .int (iI x0), .int (iI x1), .int (iI x2), .int (iI x3), .int (iI x4), (va_rf o0), .long 0, .int (iI 0), .int (iI x5), .int (iI x6), .int (iI x7)])), (a1, .inl (T 0, 940, .inl (cI f0)))]) M w 0 8 clX8 rfl (by decide) G176 rfl rfl rfl rfl (Nat.le_of_ble_eq_true rfl) rfl dX8_readRun_11 (fun H locs w => ?_)
  have loop1 : ∀ (k1 : Nat) (z1 : Int) (fy2 : Int64) (fr3 : Int32) (z4 : Int) (z5 : Int) (H : Heap) (locs : List Loc) (ls : Array Slot), 0 ≤ z1 → z1 ≤ 940 → 0 ≤ z4 → z4 ≤ 940 → 0 ≤ z5 → z5 ≤ 940 → 0 ≤ (((z1 - x2) - z5) - z4) → 0 ≤ (((z5 + z4) - z1) + x2) → rn f0 x0 x2 = rn f0 x0 z1 → clI f0 x2 z1 z5 z4 fy2 fr3 → ((x0 - z1) : Int).toNat < k1 → WD D A s.heap [(a0, .inr (8, [.ref a1, .int (iI x0), .int (iI x1), .int (iI z1), .int (iI x3), .int (iI x4), (va_rf o0), .long fy2, .int fr3, .int (iI x5), .int (iI x6), .int (iI x7)])), (a1, .inl (T 0, 940, .inl (cI f0)))] H locs → lv_has ls 4 [(2, .int (iI z4)), (1, .int (iI z5)), (0, .ref a0)] → W p l e (Rm 1 0 0) s m args below meth c H locs 0 0 Q (F0 m 14 ls []) := by
    intro k1
    induction k1 with
    | zero => intro z1 fy2 fr3 z4 z5 H locs ls z1_a z1_b z4_a z4_b z5_a z5_b q1_0 q1_1 lq1_r lq1_c hm; exact absurd hm (Nat.not_lt_zero _)
    | succ k1 ih1 =>
      intro z1 fy2 fr3 z4 z5 H locs ls z1_a z1_b z4_a z4_b z5_a z5_b q1_0 q1_1 lq1_r lq1_c hm1 w hl
      refine lv_aload_n hx hb dX8_readRun_14 rfl (lv_at hl 2 rfl) ?_
      refine r_get (v := .int (iI z1)) M w 0 3 clX8 rfl (by decide) G166 rfl rfl dX8_readRun_15 ?_
      refine lv_aload_n hx hb dX8_readRun_18 rfl (lv_at hl 2 rfl) ?_
      refine r_get (v := .int (iI x0)) M w 0 1 clX8 rfl (by decide) G162 rfl rfl dX8_readRun_19 ?_
      refine lv_icmp_ge (tgt := 99) hx hb dX8_readRun_22 (by decide) (fun c_6 => ?_) (fun c_6 => ?_)
      · replace c_6 := (iI_le (Int.le_trans (by decide) x0_a) (Int.le_trans x0_b (by decide)) (Int.le_trans (by decide) z1_a) (Int.le_trans z1_b (by decide))).mp c_6
        refine lv_aload_n hx hb dX8_readRun_99 rfl (lv_at hl 2 rfl) ?_
        refine lv_iconst (v := iI 1) hx hb dX8_readRun_100 (by decide +kernel) ?_
        refine r_put (ws' := [(a0, .inr (8, [.ref a1, .int (iI x0), .int (iI x1), .int (iI z1), .int (iI x3), .int (iI 1), (va_rf o0), .long fy2, .int fr3, .int (iI x5), .int (iI x6), .int (iI x7)])), (a1, .inl (T 0, 940, .inl (cI f0)))]) M w 0 5 clX8 rfl (by decide) G168 rfl rfl rfl rfl (Nat.le_of_ble_eq_true rfl) rfl dX8_readRun_101 (fun H locs w => ?_)
        refine lv_iload_n hx hb dX8_readRun_104 rfl (lv_at hl 0 rfl) ?_
        refine lv_if_ne (tgt := 144) hx hb dX8_readRun_105 (by decide) (fun c_7 => ?_) (fun c_7 => ?_)
        · replace c_7 : ¬ z4 = 0 := fun h => c_7 ((iz_eq (Int.le_trans (by decide) z4_a) (Int.le_trans z4_b (by decide))).mpr h)
          refine lv_iload_n hx hb dX8_readRun_144 rfl (lv_at hl 1 rfl) ?_
          refine lv_if_ne (tgt := 158) hx hb dX8_readRun_145 (by decide) (fun c_8 => ?_) (fun c_8 => ?_)
          · replace c_8 : ¬ z5 = 0 := fun h => c_8 ((iz_eq (Int.le_trans (by decide) z5_a) (Int.le_trans z5_b (by decide))).mpr h)
            exact ret (z1, 1, o0, fy2, fr3) _ _ _ _ _ [0, 1] dX8_readRun_158 ⟨z1_a, z1_b, (show (0 : Int) ≤ 1 from by decide), (show (1 : Int) ≤ 5 from by decide), o0_h, (show o0 = none → cR T f0 x0 x2 1 z1 fy2 fr3 o0 from (fun hw => by rw [hw]; exact rr_b lq1_c (by omega) (by omega) (by omega) (by omega) (by omega) (lq1_r.trans (rn_e (Or.inl (by omega))))))⟩ w (by decide) rfl
          · replace c_8 := (iz_eq (Int.le_trans (by decide) z5_a) (Int.le_trans z5_b (by decide))).mp c_8
            refine lv_iload_n hx hb dX8_readRun_148 rfl (lv_at hl 0 rfl) ?_
            refine lv_iconst (v := iI 3) hx hb dX8_readRun_149 (by decide +kernel) ?_
            refine lv_icmp_gt (tgt := 158) hx hb dX8_readRun_150 (by decide) (fun c_9 => ?_) (fun c_9 => ?_)
            · replace c_9 := (iI_lt (by decide) (by decide) (Int.le_trans (by decide) z4_a) (Int.le_trans z4_b (by decide))).mp c_9
              exact ret (z1, 1, o0, fy2, fr3) _ _ _ _ _ [0, 1] dX8_readRun_158 ⟨z1_a, z1_b, (show (0 : Int) ≤ 1 from by decide), (show (1 : Int) ≤ 5 from by decide), o0_h, (show o0 = none → cR T f0 x0 x2 1 z1 fy2 fr3 o0 from (fun hw => by rw [hw]; exact rr_b lq1_c (by omega) (by omega) (by omega) (by omega) (by omega) (lq1_r.trans (rn_e (Or.inl (by omega))))))⟩ w (by decide) rfl
            · replace c_9 : z4 ≤ 3 := Int.not_lt.mp (fun h => c_9 ((iI_lt (by decide) (by decide) (Int.le_trans (by decide) z4_a) (Int.le_trans z4_b (by decide))).mpr h))
              refine lv_aload_n hx hb dX8_readRun_153 rfl (lv_at hl 2 rfl) ?_
              refine lv_iconst (v := iI 4) hx hb dX8_readRun_154 (by decide +kernel) ?_
              refine r_put (ws' := [(a0, .inr (8, [.ref a1, .int (iI x0), .int (iI x1), .int (iI z1), .int (iI x3), .int (iI 4), (va_rf o0), .long fy2, .int fr3, .int (iI x5), .int (iI x6), .int (iI x7)])), (a1, .inl (T 0, 940, .inl (cI f0)))]) M w 0 5 clX8 rfl (by decide) G168 rfl rfl rfl rfl (Nat.le_of_ble_eq_true rfl) rfl dX8_readRun_155 (fun H locs w => ?_)
              exact ret (z1, 4, o0, fy2, fr3) _ _ _ _ _ [0, 1] dX8_readRun_158 ⟨z1_a, z1_b, (show (0 : Int) ≤ 4 from by decide), (show (4 : Int) ≤ 5 from by decide), o0_h, (show o0 = none → cR T f0 x0 x2 4 z1 fy2 fr3 o0 from (fun hw => by rw [hw]; exact rr_n lq1_c (by omega) (by omega) (by omega) (by omega) (lq1_r.trans (rn_e (Or.inl (by omega))))))⟩ w (by decide) rfl
        · replace c_7 := (iz_eq (Int.le_trans (by decide) z4_a) (Int.le_trans z4_b (by decide))).mp c_7
          refine lv_iload_n hx hb dX8_readRun_108 rfl (lv_at hl 1 rfl) ?_
          refine lv_bipush (v := iI 7) hx hb dX8_readRun_109 (by decide +kernel) ?_
          refine lv_icmp_gt (tgt := 144) hx hb dX8_readRun_111 (by decide) (fun c_10 => ?_) (fun c_10 => ?_)
          · replace c_10 := (iI_lt (by decide) (by decide) (Int.le_trans (by decide) z5_a) (Int.le_trans z5_b (by decide))).mp c_10
            refine lv_iload_n hx hb dX8_readRun_144 rfl (lv_at hl 1 rfl) ?_
            refine lv_if_ne (tgt := 158) hx hb dX8_readRun_145 (by decide) (fun c_11 => ?_) (fun c_11 => ?_)
            · replace c_11 : ¬ z5 = 0 := fun h => c_11 ((iz_eq (Int.le_trans (by decide) z5_a) (Int.le_trans z5_b (by decide))).mpr h)
              exact ret (z1, 1, o0, fy2, fr3) _ _ _ _ _ [0, 1] dX8_readRun_158 ⟨z1_a, z1_b, (show (0 : Int) ≤ 1 from by decide), (show (1 : Int) ≤ 5 from by decide), o0_h, (show o0 = none → cR T f0 x0 x2 1 z1 fy2 fr3 o0 from (fun hw => by rw [hw]; exact rr_b lq1_c (by omega) (by omega) (by omega) (by omega) (by omega) (lq1_r.trans (rn_e (Or.inl (by omega))))))⟩ w (by decide) rfl
            · replace c_11 := (iz_eq (Int.le_trans (by decide) z5_a) (Int.le_trans z5_b (by decide))).mp c_11
              exfalso; omega
          · replace c_10 : z5 ≤ 7 := Int.not_lt.mp (fun h => c_10 ((iI_lt (by decide) (by decide) (Int.le_trans (by decide) z5_a) (Int.le_trans z5_b (by decide))).mpr h))
            refine lv_aload_n hx hb dX8_readRun_114 rfl (lv_at hl 2 rfl) ?_
            refine lv_aload_n hx hb dX8_readRun_115 rfl (lv_at hl 2 rfl) ?_
            refine r_get (v := .long fy2) M w 0 7 clX8 rfl (by decide) G174 rfl rfl dX8_readRun_116 ?_
            refine k_Q (ce := 0) (sl := 0) (rest := [.ref a0]) (wr := [(a0, .inr (8, [.ref a1, .int (iI x0), .int (iI x1), .int (iI z1), .int (iI x3), .int (iI 1), (va_rf o0), .long fy2, .int fr3, .int (iI x5), .int (iI x6), .int (iI x7)])), (a1, .inl (T 0, 940, .inl (cI f0)))]) (r_S (f := 0) [] M w V_HookedCity_Tape_80 G604 (c254_X10_spelt l D T _ fy2) rfl (by decide) rfl hl.1 rfl (Nat.le_of_ble_eq_true rfl) dX8_readRun_119 (by decide) (by decide) (by decide) (by decide)) w [] [0, 1] rfl rfl (by decide) (by decide) rfl rfl (fun v fo12 H locs hp w => ?_)
            have hv : fo12 = v := hp.1
            subst hv
            have fo12_h : wok T fo12 := hp.2.1
            have pq13 : spR T fy2 fo12 := hp.2.2
            have w : WD D A s.heap [(a0, .inr (8, [.ref a1, .int (iI x0), .int (iI x1), .int (iI z1), .int (iI x3), .int (iI 1), (va_rf o0), .long fy2, .int fr3, .int (iI x5), .int (iI x6), .int (iI x7)])), (a1, .inl (T 0, 940, .inl (cI f0)))] H locs := w
            cases fo12 with
            | none =>
              refine r_put (ws' := [(a0, .inr (8, [.ref a1, .int (iI x0), .int (iI x1), .int (iI z1), .int (iI x3), .int (iI 1), .null, .long fy2, .int fr3, .int (iI x5), .int (iI x6), .int (iI x7)])), (a1, .inl (T 0, 940, .inl (cI f0)))]) M w 0 6 clX8 rfl (by decide) G170 rfl rfl rfl rfl (Nat.le_of_ble_eq_true rfl) rfl dX8_readRun_122 (fun H locs w => ?_)
              refine lv_aload_n hx hb dX8_readRun_125 rfl (lv_at hl 2 rfl) ?_
              refine lv_aload_n hx hb dX8_readRun_126 rfl (lv_at hl 2 rfl) ?_
              refine r_get (v := .null) M w 0 6 clX8 rfl (by decide) G170 rfl rfl dX8_readRun_127 ?_
              refine lv_ifnonnullN hx hb dX8_readRun_130 ?_
              refine lv_iconst (v := iI 3) hx hb dX8_readRun_133 (by decide +kernel) ?_
              refine lv_goto (tgt := 138) hx hb dX8_readRun_134 (by decide) ?_
              refine r_put (ws' := [(a0, .inr (8, [.ref a1, .int (iI x0), .int (iI x1), .int (iI z1), .int (iI x3), .int (iI 3), .null, .long fy2, .int fr3, .int (iI x5), .int (iI x6), .int (iI x7)])), (a1, .inl (T 0, 940, .inl (cI f0)))]) M w 0 5 clX8 rfl (by decide) G168 rfl rfl rfl rfl (Nat.le_of_ble_eq_true rfl) rfl dX8_readRun_138 (fun H locs w => ?_)
              refine lv_goto (tgt := 158) hx hb dX8_readRun_141 (by decide) ?_
              exact ret (z1, 3, none, fy2, fr3) _ _ _ _ _ [0, 1] dX8_readRun_158 ⟨z1_a, z1_b, (show (0 : Int) ≤ 3 from by decide), (show (3 : Int) ≤ 5 from by decide), wok_n, (show o0 = none → cR T f0 x0 x2 3 z1 fy2 fr3 none from (fun _ => rr_w lq1_c (by omega) (by omega) (by omega) (by omega) (lq1_r.trans (rn_e (Or.inl (by omega)))) pq13 (Or.inl ⟨rfl, rfl⟩)))⟩ w (by decide) rfl
            | some qq14 =>
              refine r_put (ws' := [(a0, .inr (8, [.ref a1, .int (iI x0), .int (iI x1), .int (iI z1), .int (iI x3), .int (iI 1), .ref qq14, .long fy2, .int fr3, .int (iI x5), .int (iI x6), .int (iI x7)])), (a1, .inl (T 0, 940, .inl (cI f0)))]) M w 0 6 clX8 rfl (by decide) G170 rfl rfl rfl rfl (Nat.le_of_ble_eq_true rfl) rfl dX8_readRun_122 (fun H locs w => ?_)
              refine lv_aload_n hx hb dX8_readRun_125 rfl (lv_at hl 2 rfl) ?_
              refine lv_aload_n hx hb dX8_readRun_126 rfl (lv_at hl 2 rfl) ?_
              refine r_get (v := .ref qq14) M w 0 6 clX8 rfl (by decide) G170 rfl rfl dX8_readRun_127 ?_
              refine lv_ifnonnull (tgt := 137) hx hb dX8_readRun_130 (by decide) ?_
              refine lv_iconst (v := iI 2) hx hb dX8_readRun_137 (by decide +kernel) ?_
              refine r_put (ws' := [(a0, .inr (8, [.ref a1, .int (iI x0), .int (iI x1), .int (iI z1), .int (iI x3), .int (iI 2), .ref qq14, .long fy2, .int fr3, .int (iI x5), .int (iI x6), .int (iI x7)])), (a1, .inl (T 0, 940, .inl (cI f0)))]) M w 0 5 clX8 rfl (by decide) G168 rfl rfl rfl rfl (Nat.le_of_ble_eq_true rfl) rfl dX8_readRun_138 (fun H locs w => ?_)
              refine lv_goto (tgt := 158) hx hb dX8_readRun_141 (by decide) ?_
              exact ret (z1, 2, (some qq14), fy2, fr3) _ _ _ _ _ [0, 1] dX8_readRun_158 ⟨z1_a, z1_b, (show (0 : Int) ≤ 2 from by decide), (show (2 : Int) ≤ 5 from by decide), fo12_h, (show o0 = none → cR T f0 x0 x2 2 z1 fy2 fr3 (some qq14) from (fun _ => rr_w lq1_c (by omega) (by omega) (by omega) (by omega) (lq1_r.trans (rn_e (Or.inl (by omega)))) pq13 (Or.inr ⟨(fun e => by cases e), rfl⟩)))⟩ w (by decide) rfl
      · replace c_6 : z1 < x0 := Int.not_le.mp (fun h => c_6 ((iI_le (Int.le_trans (by decide) x0_a) (Int.le_trans x0_b (by decide)) (Int.le_trans (by decide) z1_a) (Int.le_trans z1_b (by decide))).mpr h))
        refine lv_aload_n hx hb dX8_readRun_25 rfl (lv_at hl 2 rfl) ?_
        refine r_get (v := .ref a1) M w 0 0 clX8 rfl (by decide) G160 rfl rfl dX8_readRun_26 ?_
        refine lv_aload_n hx hb dX8_readRun_29 rfl (lv_at hl 2 rfl) ?_
        refine r_get (v := .int (iI z1)) M w 0 3 clX8 rfl (by decide) G166 rfl rfl dX8_readRun_30 ?_
        refine r_iald (v := iI (f0 z1)) M w 1 rfl (iI_in (by omega) (by omega) (by decide)) (cI_at (by omega) (by omega)) dX8_readRun_33 ?_
        have hh15 : 0 ≤ (f0 z1) ∧ (f0 z1) ≤ 255 := f0_h z1
        refine lv_istore_n (lv' := [(3, .int (iI (f0 z1))), (2, .int (iI z4)), (1, .int (iI z5)), (0, .ref a0)]) hx hb dX8_readRun_34 rfl hl (by decide) rfl (fun ls hl => ?_)
        refine lv_iload_n hx hb dX8_readRun_35 rfl (lv_at hl 0 rfl) ?_
        refine k_I (ce := 0) (sl := 0) (rest := []) (wr := [(a0, .inr (8, [.ref a1, .int (iI x0), .int (iI x1), .int (iI z1), .int (iI x3), .int (iI x4), (va_rf o0), .long fy2, .int fr3, .int (iI x5), .int (iI x6), .int (iI x7)])), (a1, .inl (T 0, 940, .inl (cI f0)))]) (r_S (f := 0) [] M w V_HookedCity_Tape_58 G591 (c253_X8_isLetter l D T _ (f0 z1) (by omega) (by omega)) rfl (by decide) rfl hl.1 rfl (Nat.le_of_ble_eq_true rfl) dX8_readRun_36 (by decide) (by decide) (by decide) (by decide)) w [] [0, 1] rfl rfl (by decide) (by decide) rfl rfl (fun v z16 H locs hp w => ?_)
        have hv : iI z16 = v := hp.1
        subst hv
        have z16_a : 0 ≤ z16 := hp.2.1
        have z16_b : z16 ≤ 1 := hp.2.2.1
        have pq17 : lq z16 (f0 z1) 97 122 := hp.2.2.2
        have w : WD D A s.heap [(a0, .inr (8, [.ref a1, .int (iI x0), .int (iI x1), .int (iI z1), .int (iI x3), .int (iI x4), (va_rf o0), .long fy2, .int fr3, .int (iI x5), .int (iI x6), .int (iI x7)])), (a1, .inl (T 0, 940, .inl (cI f0)))] H locs := w
        refine lv_if_eq (tgt := 60) hx hb dX8_readRun_39 (by decide) (fun c_18 => ?_) (fun c_18 => ?_)
        · replace c_18 := (iz_eq (Int.le_trans (by decide) z16_a) (Int.le_trans z16_b (by decide))).mp c_18
          refine lv_iload_n hx hb dX8_readRun_60 rfl (lv_at hl 0 rfl) ?_
          refine k_I (ce := 0) (sl := 0) (rest := []) (wr := [(a0, .inr (8, [.ref a1, .int (iI x0), .int (iI x1), .int (iI z1), .int (iI x3), .int (iI x4), (va_rf o0), .long fy2, .int fr3, .int (iI x5), .int (iI x6), .int (iI x7)])), (a1, .inl (T 0, 940, .inl (cI f0)))]) (r_S (f := 0) [] M w V_HookedCity_Tape_62 G594 (c255_X8_isDigit l D T _ (f0 z1) (by omega) (by omega)) rfl (by decide) rfl hl.1 rfl (Nat.le_of_ble_eq_true rfl) dX8_readRun_61 (by decide) (by decide) (by decide) (by decide)) w [] [0, 1] rfl rfl (by decide) (by decide) rfl rfl (fun v z19 H locs hp w => ?_)
          have hv : iI z19 = v := hp.1
          subst hv
          have z19_a : 0 ≤ z19 := hp.2.1
          have z19_b : z19 ≤ 1 := hp.2.2.1
          have pq20 : lq z19 (f0 z1) 48 57 := hp.2.2.2
          have w : WD D A s.heap [(a0, .inr (8, [.ref a1, .int (iI x0), .int (iI x1), .int (iI z1), .int (iI x3), .int (iI x4), (va_rf o0), .long fy2, .int fr3, .int (iI x5), .int (iI x6), .int (iI x7)])), (a1, .inl (T 0, 940, .inl (cI f0)))] H locs := w
          refine lv_if_eq (tgt := 99) hx hb dX8_readRun_64 (by decide) (fun c_21 => ?_) (fun c_21 => ?_)
          · replace c_21 := (iz_eq (Int.le_trans (by decide) z19_a) (Int.le_trans z19_b (by decide))).mp c_21
            refine lv_aload_n hx hb dX8_readRun_99 rfl (lv_at hl 3 rfl) ?_
            refine lv_iconst (v := iI 1) hx hb dX8_readRun_100 (by decide +kernel) ?_
            refine r_put (ws' := [(a0, .inr (8, [.ref a1, .int (iI x0), .int (iI x1), .int (iI z1), .int (iI x3), .int (iI 1), (va_rf o0), .long fy2, .int fr3, .int (iI x5), .int (iI x6), .int (iI x7)])), (a1, .inl (T 0, 940, .inl (cI f0)))]) M w 0 5 clX8 rfl (by decide) G168 rfl rfl rfl rfl (Nat.le_of_ble_eq_true rfl) rfl dX8_readRun_101 (fun H locs w => ?_)
            refine lv_iload_n hx hb dX8_readRun_104 rfl (lv_at hl 1 rfl) ?_
            refine lv_if_ne (tgt := 144) hx hb dX8_readRun_105 (by decide) (fun c_22 => ?_) (fun c_22 => ?_)
            · replace c_22 : ¬ z4 = 0 := fun h => c_22 ((iz_eq (Int.le_trans (by decide) z4_a) (Int.le_trans z4_b (by decide))).mpr h)
              refine lv_iload_n hx hb dX8_readRun_144 rfl (lv_at hl 2 rfl) ?_
              refine lv_if_ne (tgt := 158) hx hb dX8_readRun_145 (by decide) (fun c_23 => ?_) (fun c_23 => ?_)
              · replace c_23 : ¬ z5 = 0 := fun h => c_23 ((iz_eq (Int.le_trans (by decide) z5_a) (Int.le_trans z5_b (by decide))).mpr h)
                exact ret (z1, 1, o0, fy2, fr3) _ _ _ _ _ [0, 1] dX8_readRun_158 ⟨z1_a, z1_b, (show (0 : Int) ≤ 1 from by decide), (show (1 : Int) ≤ 5 from by decide), o0_h, (show o0 = none → cR T f0 x0 x2 1 z1 fy2 fr3 o0 from (fun hw => by rw [hw]; exact rr_b lq1_c (by omega) (by omega) (by omega) (by omega) (by omega) (lq1_r.trans (rn_e (Or.inr (nld pq17 (by omega) pq20 (by omega)))))))⟩ w (by decide) rfl
              · replace c_23 := (iz_eq (Int.le_trans (by decide) z5_a) (Int.le_trans z5_b (by decide))).mp c_23
                refine lv_iload_n hx hb dX8_readRun_148 rfl (lv_at hl 1 rfl) ?_
                refine lv_iconst (v := iI 3) hx hb dX8_readRun_149 (by decide +kernel) ?_
                refine lv_icmp_gt (tgt := 158) hx hb dX8_readRun_150 (by decide) (fun c_24 => ?_) (fun c_24 => ?_)
                · replace c_24 := (iI_lt (by decide) (by decide) (Int.le_trans (by decide) z4_a) (Int.le_trans z4_b (by decide))).mp c_24
                  exact ret (z1, 1, o0, fy2, fr3) _ _ _ _ _ [0, 1] dX8_readRun_158 ⟨z1_a, z1_b, (show (0 : Int) ≤ 1 from by decide), (show (1 : Int) ≤ 5 from by decide), o0_h, (show o0 = none → cR T f0 x0 x2 1 z1 fy2 fr3 o0 from (fun hw => by rw [hw]; exact rr_b lq1_c (by omega) (by omega) (by omega) (by omega) (by omega) (lq1_r.trans (rn_e (Or.inr (nld pq17 (by omega) pq20 (by omega)))))))⟩ w (by decide) rfl
                · replace c_24 : z4 ≤ 3 := Int.not_lt.mp (fun h => c_24 ((iI_lt (by decide) (by decide) (Int.le_trans (by decide) z4_a) (Int.le_trans z4_b (by decide))).mpr h))
                  refine lv_aload_n hx hb dX8_readRun_153 rfl (lv_at hl 3 rfl) ?_
                  refine lv_iconst (v := iI 4) hx hb dX8_readRun_154 (by decide +kernel) ?_
                  refine r_put (ws' := [(a0, .inr (8, [.ref a1, .int (iI x0), .int (iI x1), .int (iI z1), .int (iI x3), .int (iI 4), (va_rf o0), .long fy2, .int fr3, .int (iI x5), .int (iI x6), .int (iI x7)])), (a1, .inl (T 0, 940, .inl (cI f0)))]) M w 0 5 clX8 rfl (by decide) G168 rfl rfl rfl rfl (Nat.le_of_ble_eq_true rfl) rfl dX8_readRun_155 (fun H locs w => ?_)
                  exact ret (z1, 4, o0, fy2, fr3) _ _ _ _ _ [0, 1] dX8_readRun_158 ⟨z1_a, z1_b, (show (0 : Int) ≤ 4 from by decide), (show (4 : Int) ≤ 5 from by decide), o0_h, (show o0 = none → cR T f0 x0 x2 4 z1 fy2 fr3 o0 from (fun hw => by rw [hw]; exact rr_n lq1_c (by omega) (by omega) (by omega) (by omega) (lq1_r.trans (rn_e (Or.inr (nld pq17 (by omega) pq20 (by omega)))))))⟩ w (by decide) rfl
            · replace c_22 := (iz_eq (Int.le_trans (by decide) z4_a) (Int.le_trans z4_b (by decide))).mp c_22
              refine lv_iload_n hx hb dX8_readRun_108 rfl (lv_at hl 2 rfl) ?_
              refine lv_bipush (v := iI 7) hx hb dX8_readRun_109 (by decide +kernel) ?_
              refine lv_icmp_gt (tgt := 144) hx hb dX8_readRun_111 (by decide) (fun c_25 => ?_) (fun c_25 => ?_)
              · replace c_25 := (iI_lt (by decide) (by decide) (Int.le_trans (by decide) z5_a) (Int.le_trans z5_b (by decide))).mp c_25
                refine lv_iload_n hx hb dX8_readRun_144 rfl (lv_at hl 2 rfl) ?_
                refine lv_if_ne (tgt := 158) hx hb dX8_readRun_145 (by decide) (fun c_26 => ?_) (fun c_26 => ?_)
                · replace c_26 : ¬ z5 = 0 := fun h => c_26 ((iz_eq (Int.le_trans (by decide) z5_a) (Int.le_trans z5_b (by decide))).mpr h)
                  exact ret (z1, 1, o0, fy2, fr3) _ _ _ _ _ [0, 1] dX8_readRun_158 ⟨z1_a, z1_b, (show (0 : Int) ≤ 1 from by decide), (show (1 : Int) ≤ 5 from by decide), o0_h, (show o0 = none → cR T f0 x0 x2 1 z1 fy2 fr3 o0 from (fun hw => by rw [hw]; exact rr_b lq1_c (by omega) (by omega) (by omega) (by omega) (by omega) (lq1_r.trans (rn_e (Or.inr (nld pq17 (by omega) pq20 (by omega)))))))⟩ w (by decide) rfl
                · replace c_26 := (iz_eq (Int.le_trans (by decide) z5_a) (Int.le_trans z5_b (by decide))).mp c_26
                  exfalso; omega
              · replace c_25 : z5 ≤ 7 := Int.not_lt.mp (fun h => c_25 ((iI_lt (by decide) (by decide) (Int.le_trans (by decide) z5_a) (Int.le_trans z5_b (by decide))).mpr h))
                refine lv_aload_n hx hb dX8_readRun_114 rfl (lv_at hl 3 rfl) ?_
                refine lv_aload_n hx hb dX8_readRun_115 rfl (lv_at hl 3 rfl) ?_
                refine r_get (v := .long fy2) M w 0 7 clX8 rfl (by decide) G174 rfl rfl dX8_readRun_116 ?_
                refine k_Q (ce := 0) (sl := 0) (rest := [.ref a0]) (wr := [(a0, .inr (8, [.ref a1, .int (iI x0), .int (iI x1), .int (iI z1), .int (iI x3), .int (iI 1), (va_rf o0), .long fy2, .int fr3, .int (iI x5), .int (iI x6), .int (iI x7)])), (a1, .inl (T 0, 940, .inl (cI f0)))]) (r_S (f := 0) [] M w V_HookedCity_Tape_80 G604 (c254_X10_spelt l D T _ fy2) rfl (by decide) rfl hl.1 rfl (Nat.le_of_ble_eq_true rfl) dX8_readRun_119 (by decide) (by decide) (by decide) (by decide)) w [] [0, 1] rfl rfl (by decide) (by decide) rfl rfl (fun v fo27 H locs hp w => ?_)
                have hv : fo27 = v := hp.1
                subst hv
                have fo27_h : wok T fo27 := hp.2.1
                have pq28 : spR T fy2 fo27 := hp.2.2
                have w : WD D A s.heap [(a0, .inr (8, [.ref a1, .int (iI x0), .int (iI x1), .int (iI z1), .int (iI x3), .int (iI 1), (va_rf o0), .long fy2, .int fr3, .int (iI x5), .int (iI x6), .int (iI x7)])), (a1, .inl (T 0, 940, .inl (cI f0)))] H locs := w
                cases fo27 with
                | none =>
                  refine r_put (ws' := [(a0, .inr (8, [.ref a1, .int (iI x0), .int (iI x1), .int (iI z1), .int (iI x3), .int (iI 1), .null, .long fy2, .int fr3, .int (iI x5), .int (iI x6), .int (iI x7)])), (a1, .inl (T 0, 940, .inl (cI f0)))]) M w 0 6 clX8 rfl (by decide) G170 rfl rfl rfl rfl (Nat.le_of_ble_eq_true rfl) rfl dX8_readRun_122 (fun H locs w => ?_)
                  refine lv_aload_n hx hb dX8_readRun_125 rfl (lv_at hl 3 rfl) ?_
                  refine lv_aload_n hx hb dX8_readRun_126 rfl (lv_at hl 3 rfl) ?_
                  refine r_get (v := .null) M w 0 6 clX8 rfl (by decide) G170 rfl rfl dX8_readRun_127 ?_
                  refine lv_ifnonnullN hx hb dX8_readRun_130 ?_
                  refine lv_iconst (v := iI 3) hx hb dX8_readRun_133 (by decide +kernel) ?_
                  refine lv_goto (tgt := 138) hx hb dX8_readRun_134 (by decide) ?_
                  refine r_put (ws' := [(a0, .inr (8, [.ref a1, .int (iI x0), .int (iI x1), .int (iI z1), .int (iI x3), .int (iI 3), .null, .long fy2, .int fr3, .int (iI x5), .int (iI x6), .int (iI x7)])), (a1, .inl (T 0, 940, .inl (cI f0)))]) M w 0 5 clX8 rfl (by decide) G168 rfl rfl rfl rfl (Nat.le_of_ble_eq_true rfl) rfl dX8_readRun_138 (fun H locs w => ?_)
                  refine lv_goto (tgt := 158) hx hb dX8_readRun_141 (by decide) ?_
                  exact ret (z1, 3, none, fy2, fr3) _ _ _ _ _ [0, 1] dX8_readRun_158 ⟨z1_a, z1_b, (show (0 : Int) ≤ 3 from by decide), (show (3 : Int) ≤ 5 from by decide), wok_n, (show o0 = none → cR T f0 x0 x2 3 z1 fy2 fr3 none from (fun _ => rr_w lq1_c (by omega) (by omega) (by omega) (by omega) (lq1_r.trans (rn_e (Or.inr (nld pq17 (by omega) pq20 (by omega))))) pq28 (Or.inl ⟨rfl, rfl⟩)))⟩ w (by decide) rfl
                | some qq29 =>
                  refine r_put (ws' := [(a0, .inr (8, [.ref a1, .int (iI x0), .int (iI x1), .int (iI z1), .int (iI x3), .int (iI 1), .ref qq29, .long fy2, .int fr3, .int (iI x5), .int (iI x6), .int (iI x7)])), (a1, .inl (T 0, 940, .inl (cI f0)))]) M w 0 6 clX8 rfl (by decide) G170 rfl rfl rfl rfl (Nat.le_of_ble_eq_true rfl) rfl dX8_readRun_122 (fun H locs w => ?_)
                  refine lv_aload_n hx hb dX8_readRun_125 rfl (lv_at hl 3 rfl) ?_
                  refine lv_aload_n hx hb dX8_readRun_126 rfl (lv_at hl 3 rfl) ?_
                  refine r_get (v := .ref qq29) M w 0 6 clX8 rfl (by decide) G170 rfl rfl dX8_readRun_127 ?_
                  refine lv_ifnonnull (tgt := 137) hx hb dX8_readRun_130 (by decide) ?_
                  refine lv_iconst (v := iI 2) hx hb dX8_readRun_137 (by decide +kernel) ?_
                  refine r_put (ws' := [(a0, .inr (8, [.ref a1, .int (iI x0), .int (iI x1), .int (iI z1), .int (iI x3), .int (iI 2), .ref qq29, .long fy2, .int fr3, .int (iI x5), .int (iI x6), .int (iI x7)])), (a1, .inl (T 0, 940, .inl (cI f0)))]) M w 0 5 clX8 rfl (by decide) G168 rfl rfl rfl rfl (Nat.le_of_ble_eq_true rfl) rfl dX8_readRun_138 (fun H locs w => ?_)
                  refine lv_goto (tgt := 158) hx hb dX8_readRun_141 (by decide) ?_
                  exact ret (z1, 2, (some qq29), fy2, fr3) _ _ _ _ _ [0, 1] dX8_readRun_158 ⟨z1_a, z1_b, (show (0 : Int) ≤ 2 from by decide), (show (2 : Int) ≤ 5 from by decide), fo27_h, (show o0 = none → cR T f0 x0 x2 2 z1 fy2 fr3 (some qq29) from (fun _ => rr_w lq1_c (by omega) (by omega) (by omega) (by omega) (lq1_r.trans (rn_e (Or.inr (nld pq17 (by omega) pq20 (by omega))))) pq28 (Or.inr ⟨(fun e => by cases e), rfl⟩)))⟩ w (by decide) rfl
          · replace c_21 : ¬ z19 = 0 := fun h => c_21 ((iz_eq (Int.le_trans (by decide) z19_a) (Int.le_trans z19_b (by decide))).mpr h)
            refine lv_iinc (v := iI (z4 + 1)) (lv' := [(2, .int (iI (z4 + 1))), (3, .int (iI (f0 z1))), (1, .int (iI z5)), (0, .ref a0)]) hx hb dX8_readRun_67 hl (k := 1) rfl (ii_inc (by decide +kernel)) (by decide) rfl (fun ls hl => ?_)
            refine lv_aload_n hx hb dX8_readRun_70 rfl (lv_at hl 3 rfl) ?_
            refine lv_aload_n hx hb dX8_readRun_71 rfl (lv_at hl 3 rfl) ?_
            refine r_get (v := .int fr3) M w 0 8 clX8 rfl (by decide) G176 rfl rfl dX8_readRun_72 ?_
            refine lv_bipush (v := iI 10) hx hb dX8_readRun_75 (by decide +kernel) ?_
            refine r_imul (v := (fr3 * (iI 10))) M rfl dX8_readRun_77 ?_
            refine lv_iload_n hx hb dX8_readRun_78 rfl (lv_at hl 1 rfl) ?_
            refine r_iadd (v := ((fr3 * (iI 10)) + (iI (f0 z1)))) M rfl dX8_readRun_79 ?_
            refine lv_bipush (v := iI 48) hx hb dX8_readRun_80 (by decide +kernel) ?_
            refine r_isub (v := (((fr3 * (iI 10)) + (iI (f0 z1))) - (iI 48))) M rfl dX8_readRun_82 ?_
            refine r_put (ws' := [(a0, .inr (8, [.ref a1, .int (iI x0), .int (iI x1), .int (iI z1), .int (iI x3), .int (iI x4), (va_rf o0), .long fy2, .int (((fr3 * (iI 10)) + (iI (f0 z1))) - (iI 48)), .int (iI x5), .int (iI x6), .int (iI x7)])), (a1, .inl (T 0, 940, .inl (cI f0)))]) M w 0 8 clX8 rfl (by decide) G176 rfl rfl rfl rfl (Nat.le_of_ble_eq_true rfl) rfl dX8_readRun_83 (fun H locs w => ?_)
            refine lv_aload_n hx hb dX8_readRun_86 rfl (lv_at hl 3 rfl) ?_
            refine lv_dup hx hb dX8_readRun_87 rfl ?_
            refine r_get (v := .int (iI z1)) M w 0 3 clX8 rfl (by decide) G166 rfl rfl dX8_readRun_88 ?_
            refine lv_iconst (v := iI 1) hx hb dX8_readRun_91 (by decide +kernel) ?_
            refine r_iadd (v := iI (z1 + 1)) M (iI_add _ _) dX8_readRun_92 ?_
            refine r_put (ws' := [(a0, .inr (8, [.ref a1, .int (iI x0), .int (iI x1), .int (iI (z1 + 1)), .int (iI x3), .int (iI x4), (va_rf o0), .long fy2, .int (((fr3 * (iI 10)) + (iI (f0 z1))) - (iI 48)), .int (iI x5), .int (iI x6), .int (iI x7)])), (a1, .inl (T 0, 940, .inl (cI f0)))]) M w 0 3 clX8 rfl (by decide) G166 rfl rfl rfl rfl (Nat.le_of_ble_eq_true rfl) rfl dX8_readRun_93 (fun H locs w => ?_)
            refine lv_goto (tgt := 14) hx hb dX8_readRun_96 (by decide) ?_
            exact ih1 (z1 + 1) fy2 (((fr3 * (iI 10)) + (iI (f0 z1))) - (iI 48)) (z4 + 1) z5 _ _ _ (by omega) (by omega) (by omega) (by omega) z5_a z5_b (by omega) (by omega) (lq1_r.trans (rn_t (by omega) (Or.inr (lq_1 pq20 (by omega))))) (cl_d lq1_c (by omega) (by omega) (by omega) (lq_1 pq20 (by omega)) rfl) (by omega) w (lv_sub hl [0, 2, 3] rfl)
        · replace c_18 : ¬ z16 = 0 := fun h => c_18 ((iz_eq (Int.le_trans (by decide) z16_a) (Int.le_trans z16_b (by decide))).mpr h)
          refine lv_iinc (v := iI (z5 + 1)) (lv' := [(1, .int (iI (z5 + 1))), (3, .int (iI (f0 z1))), (2, .int (iI z4)), (0, .ref a0)]) hx hb dX8_readRun_42 hl (k := 2) rfl (ii_inc (by decide +kernel)) (by decide) rfl (fun ls hl => ?_)
          refine lv_aload_n hx hb dX8_readRun_45 rfl (lv_at hl 3 rfl) ?_
          refine lv_aload_n hx hb dX8_readRun_46 rfl (lv_at hl 3 rfl) ?_
          refine r_get (v := .long fy2) M w 0 7 clX8 rfl (by decide) G174 rfl rfl dX8_readRun_47 ?_
          refine lv_iload_n hx hb dX8_readRun_50 rfl (lv_at hl 1 rfl) ?_
          refine k_L (ce := 0) (sl := 0) (rest := [.ref a0]) (wr := [(a0, .inr (8, [.ref a1, .int (iI x0), .int (iI x1), .int (iI z1), .int (iI x3), .int (iI x4), (va_rf o0), .long fy2, .int fr3, .int (iI x5), .int (iI x6), .int (iI x7)])), (a1, .inl (T 0, 940, .inl (cI f0)))]) (r_S (f := 0) [] M w V_HookedCity_Tape_76 G601 (c256_X8_longer l D T _ fy2 (f0 z1) (by omega) (by omega)) rfl (by decide) rfl hl.1 rfl (Nat.le_of_ble_eq_true rfl) dX8_readRun_51 (by decide) (by decide) (by decide) (by decide)) w [] [0, 1] rfl rfl (by decide) (by decide) rfl rfl (fun fy30 _ H locs hp w => ?_)
          have pq31 : 97 ≤ (f0 z1) → (f0 z1) ≤ 122 → fy30 = fy2 * 32 + lI ((f0 z1) - 96) := hp
          have w : WD D A s.heap [(a0, .inr (8, [.ref a1, .int (iI x0), .int (iI x1), .int (iI z1), .int (iI x3), .int (iI x4), (va_rf o0), .long fy2, .int fr3, .int (iI x5), .int (iI x6), .int (iI x7)])), (a1, .inl (T 0, 940, .inl (cI f0)))] H locs := w
          refine r_put (ws' := [(a0, .inr (8, [.ref a1, .int (iI x0), .int (iI x1), .int (iI z1), .int (iI x3), .int (iI x4), (va_rf o0), .long fy30, .int fr3, .int (iI x5), .int (iI x6), .int (iI x7)])), (a1, .inl (T 0, 940, .inl (cI f0)))]) M w 0 7 clX8 rfl (by decide) G174 rfl rfl rfl rfl (Nat.le_of_ble_eq_true rfl) rfl dX8_readRun_54 (fun H locs w => ?_)
          refine lv_goto (tgt := 86) hx hb dX8_readRun_57 (by decide) ?_
          refine lv_aload_n hx hb dX8_readRun_86 rfl (lv_at hl 3 rfl) ?_
          refine lv_dup hx hb dX8_readRun_87 rfl ?_
          refine r_get (v := .int (iI z1)) M w 0 3 clX8 rfl (by decide) G166 rfl rfl dX8_readRun_88 ?_
          refine lv_iconst (v := iI 1) hx hb dX8_readRun_91 (by decide +kernel) ?_
          refine r_iadd (v := iI (z1 + 1)) M (iI_add _ _) dX8_readRun_92 ?_
          refine r_put (ws' := [(a0, .inr (8, [.ref a1, .int (iI x0), .int (iI x1), .int (iI (z1 + 1)), .int (iI x3), .int (iI x4), (va_rf o0), .long fy30, .int fr3, .int (iI x5), .int (iI x6), .int (iI x7)])), (a1, .inl (T 0, 940, .inl (cI f0)))]) M w 0 3 clX8 rfl (by decide) G166 rfl rfl rfl rfl (Nat.le_of_ble_eq_true rfl) rfl dX8_readRun_93 (fun H locs w => ?_)
          refine lv_goto (tgt := 14) hx hb dX8_readRun_96 (by decide) ?_
          exact ih1 (z1 + 1) fy30 fr3 z4 (z5 + 1) _ _ _ (by omega) (by omega) z4_a z4_b (by omega) (by omega) (by omega) (by omega) (lq1_r.trans (rn_t (by omega) (Or.inl (lq_1 pq17 (by omega))))) (cl_l lq1_c (by omega) (by omega) (by omega) (lq_1 pq17 (by omega)) (pq31 (lq_1 pq17 (by omega)).1 (lq_1 pq17 (by omega)).2)) (by omega) w (lv_sub hl [2, 0, 3] rfl)
  exact loop1 (((x0 - x2) : Int).toNat + 1) x2 0 (iI 0) 0 0 _ _ _ x2_a x2_b (by decide) (by decide) (by decide) (by decide) (by omega) (by omega) rfl (cl_0 rfl rfl) (Nat.lt_succ_self _) w (lv_sub hl [0, 1, 2] rfl)
set_option maxRecDepth 100000 in
set_option maxHeartbeats 4000000 in
theorem c258_J0_isLatin1_aae02 (l : Launch) (D : va_G) (T : Nat → ClassId) (sz : Nat) : Met l yJ0_isLatin1_aae02 (Cond.code yJ0_isLatin1_aae02 cJ0_isLatin1_aae02 1 (some .boolean) :: GW) (Rm 0 0 0) (cPre [.ref (T (50 + 0))] D T [] sz) (qI D [] sz (fun (v : Int32) (u : Int) => iI u = v ∧ 0 ≤ u ∧ u ≤ 1 ∧ ((u = 1))) (fun u => [])) 0 0 (va_A [] sz) := by
  refine e_Z (by decide) (Nat.le_of_ble_eq_true rfl) ?_
  intro p e s m args below meth c A Q ls M hin w ret hl
  have hx := M.1.1
  have hb := M.1.2.1
  have hl : lv_has ls 1 [(0, .ref (T (50 + 0)))] := hl
  refine r_getCS M w G621 dJ0_isLatin1_aae02_0 ?_
  refine lv_if_eq (tgt := 17) hx hb dJ0_isLatin1_aae02_3 (by decide) (fun c => absurd c (by decide +kernel)) (fun _ => ?_)
  refine lv_aload_n hx hb dJ0_isLatin1_aae02_6 rfl (lv_at hl 0 rfl) ?_
  refine r_scod M w 0 rfl G2085 dJ0_isLatin1_aae02_7 ?_
  refine lv_if_ne (tgt := 17) hx hb dJ0_isLatin1_aae02_10 (by decide) (fun c => absurd (by decide +kernel) c) (fun _ => ?_)
  refine lv_iconst (v := iI 1) hx hb dJ0_isLatin1_aae02_13 (by decide +kernel) ?_
  refine lv_goto (tgt := 18) hx hb dJ0_isLatin1_aae02_14 (by decide) ?_
  exact ret _ 1 _ _ _ _ _ [] dJ0_isLatin1_aae02_18 (by decide +kernel) ⟨rfl, (show (0 : Int) ≤ 1 from by decide), (show (1 : Int) ≤ 1 from by decide), rfl⟩ w (by decide) rfl
set_option maxRecDepth 100000 in
set_option maxHeartbeats 4000000 in
theorem c259_J0_coder_7d493 (l : Launch) (D : va_G) (T : Nat → ClassId) (sz : Nat) : Met l yJ0_coder_7d493 (Cond.code yJ0_coder_7d493 cJ0_coder_7d493 1 (some .byte) :: GW) (Rm 0 0 0) (cPre [.ref (T (50 + 0))] D T [] sz) (qI D [] sz (fun (v : Int32) (u : Int) => iI u = v ∧ (-128) ≤ u ∧ u ≤ 127 ∧ ((u = 0))) (fun u => [])) 0 0 (va_A [] sz) := by
  refine e_B (by decide) (Nat.le_of_ble_eq_true rfl) ?_
  intro p e s m args below meth c A Q ls M hin w ret hl
  have hx := M.1.1
  have hb := M.1.2.1
  have hl : lv_has ls 1 [(0, .ref (T (50 + 0)))] := hl
  refine r_getCS M w G621 dJ0_coder_7d493_0 ?_
  refine lv_if_eq (tgt := 13) hx hb dJ0_coder_7d493_3 (by decide) (fun c => absurd c (by decide +kernel)) (fun _ => ?_)
  refine lv_aload_n hx hb dJ0_coder_7d493_6 rfl (lv_at hl 0 rfl) ?_
  refine r_scod M w 0 rfl G2085 dJ0_coder_7d493_7 ?_
  refine lv_goto (tgt := 14) hx hb dJ0_coder_7d493_10 (by decide) ?_
  exact ret _ 0 _ _ _ _ _ [] dJ0_coder_7d493_14 (by decide +kernel) ⟨rfl, (show (-128) ≤ 0 from by decide), (show (0 : Int) ≤ 127 from by decide), rfl⟩ w (by decide) rfl
set_option maxRecDepth 100000 in
set_option maxHeartbeats 4000000 in
theorem c260_J0_length_8abf5 (l : Launch) (D : va_G) (T : Nat → ClassId) (sz : Nat) : Met l yJ0_length_8abf5 (Cond.code yJ0_length_8abf5 cJ0_length_8abf5 1 (some .int) :: GW) (Rm 1 0 0) (cPre [.ref (T (50 + 0))] D T [] sz) (qI D [] sz (fun (v : Int32) (u : Int) => iI u = v ∧ (-2147483648) ≤ u ∧ u ≤ 2147483647 ∧ ((u = 6))) (fun u => [])) 0 0 (va_A [] sz) := by
  refine e_I (by decide) (Nat.le_of_ble_eq_true rfl) ?_
  intro p e s m args below meth c A Q ls M hin w ret hl
  have hx := M.1.1
  have hb := M.1.2.1
  have hl : lv_has ls 1 [(0, .ref (T (50 + 0)))] := hl
  refine lv_aload_n hx hb dJ0_length_8abf5_0 rfl (lv_at hl 0 rfl) ?_
  refine r_sval M w 0 rfl G2086 dJ0_length_8abf5_1 ?_
  refine r_slen M w 0 rfl (z := 6) (by decide +kernel) dJ0_length_8abf5_4 ?_
  refine lv_aload_n hx hb dJ0_length_8abf5_5 rfl (lv_at hl 0 rfl) ?_
  refine k_I (ce := 0) (sl := 0) (rest := [.int (iI 6)]) (wr := []) (r_VT (f := 0) [] M w V_java_lang_String_335 G628 G629 (c259_J0_coder_7d493 l D T _) (M.2.2.2.2.2.2.1.2 0 _ rfl).1 rfl (by decide) rfl hl.1 rfl (Nat.le_of_ble_eq_true rfl) dJ0_length_8abf5_6 (by decide) (by decide) (by decide) (by decide)) w [] [] rfl rfl (by decide) (by decide) rfl rfl (fun v z1 H locs hp w => ?_)
  have hv : iI z1 = v := hp.1
  subst hv
  have z1_a : (-128) ≤ z1 := hp.2.1
  have z1_b : z1 ≤ 127 := hp.2.2.1
  have w : WD D A s.heap [] H locs := w
  rcases hp.2.2.2 with hr
  · subst hr
    refine r_ishr (v := iI 6) M (by decide +kernel) dJ0_length_8abf5_9 ?_
    exact ret _ 6 _ _ _ _ _ [] dJ0_length_8abf5_10 ⟨rfl, (show (-2147483648) ≤ 6 from by decide), (show (6 : Int) ≤ 2147483647 from by decide), rfl⟩ w (by decide) rfl
set_option maxRecDepth 100000 in
set_option maxHeartbeats 4000000 in
theorem c261_J1_canEncode_9a6ad (l : Launch) (D : va_G) (T : Nat → ClassId) (sz : Nat) (x0 : Int) (x0_a : 0 ≤ x0) (x0_b : x0 ≤ 255) : Met l yJ1_canEncode_9a6ad (Cond.code yJ1_canEncode_9a6ad cJ1_canEncode_9a6ad 1 (some .boolean) :: GW) (Rm 0 0 0) (cPre [.int (iI x0)] D T [] sz) (qI D [] sz (fun (v : Int32) (u : Int) => iI u = v ∧ 0 ≤ u ∧ u ≤ 1 ∧ ((0 ≤ x0 ∧ x0 ≤ 255 ∧ u = 1))) (fun u => [])) 0 0 (va_A [] sz) := by
  refine e_Z (by decide) (Nat.le_of_ble_eq_true rfl) ?_
  intro p e s m args below meth c A Q ls M hin w ret hl
  have hx := M.1.1
  have hb := M.1.2.1
  have hl : lv_has ls 1 [(0, .int (iI x0))] := hl
  refine lv_iload_n hx hb dJ1_canEncode_9a6ad_0 rfl (lv_at hl 0 rfl) ?_
  refine lv_if_lt (tgt := 15) hx hb dJ1_canEncode_9a6ad_1 (by decide) (fun c_1 => ?_) (fun c_1 => ?_)
  · replace c_1 := (iz_lt (Int.le_trans (by decide) x0_a) (Int.le_trans x0_b (by decide))).mp c_1
    exfalso; omega
  · replace c_1 : 0 ≤ x0 := Int.not_lt.mp (fun h => c_1 ((iz_lt (Int.le_trans (by decide) x0_a) (Int.le_trans x0_b (by decide))).mpr h))
    refine lv_iload_n hx hb dJ1_canEncode_9a6ad_4 rfl (lv_at hl 0 rfl) ?_
    refine lv_sipush (v := iI 255) hx hb dJ1_canEncode_9a6ad_5 (by decide +kernel) ?_
    refine lv_icmp_gt (tgt := 15) hx hb dJ1_canEncode_9a6ad_8 (by decide) (fun c_2 => ?_) (fun c_2 => ?_)
    · replace c_2 := (iI_lt (by decide) (by decide) (Int.le_trans (by decide) x0_a) (Int.le_trans x0_b (by decide))).mp c_2
      exfalso; omega
    · replace c_2 : x0 ≤ 255 := Int.not_lt.mp (fun h => c_2 ((iI_lt (by decide) (by decide) (Int.le_trans (by decide) x0_a) (Int.le_trans x0_b (by decide))).mpr h))
      refine lv_iconst (v := iI 1) hx hb dJ1_canEncode_9a6ad_11 (by decide +kernel) ?_
      refine lv_goto (tgt := 16) hx hb dJ1_canEncode_9a6ad_12 (by decide) ?_
      exact ret _ 1 _ _ _ _ _ [] dJ1_canEncode_9a6ad_16 (by decide +kernel) ⟨rfl, (show (0 : Int) ≤ 1 from by decide), (show (1 : Int) ≤ 1 from by decide), ⟨c_1, c_2, rfl⟩⟩ w (by decide) rfl
set_option maxRecDepth 100000 in
set_option maxHeartbeats 4000000 in
theorem c262_J1_indexOfChar_4cfef (l : Launch) (D : va_G) (T : Nat → ClassId) (sz : Nat) (x0 : Int) (x0_a : 0 ≤ x0) (x0_b : x0 ≤ 255) : Met l yJ1_indexOfChar_4cfef (Cond.code yJ1_indexOfChar_4cfef cJ1_indexOfChar_4cfef 6 (some .int) :: GW) (Rm 0 0 0) (cPre [.ref (T (60 + 0)), .int (iI x0), .int (iI 0), .int (iI 6)] D T [] sz) (qI D [] sz (fun (v : Int32) (u : Int) => iI u = v ∧ (-2147483648) ≤ u ∧ u ≤ 2147483647 ∧ (ioQ u x0)) (fun u => [])) 0 0 (va_A [] sz) := by
  refine e_I (by decide) (Nat.le_of_ble_eq_true rfl) ?_
  intro p e s m args below meth c A Q ls M hin w ret hl
  have hx := M.1.1
  have hb := M.1.2.1
  have hl : lv_has ls 6 [(0, .ref (T (60 + 0))), (1, .int (iI x0)), (2, .int (iI 0)), (3, .int (iI 6))] := hl
  refine lv_iload_n hx hb dJ1_indexOfChar_4cfef_0 rfl (lv_at hl 1 rfl) ?_
  obtain ⟨z1, z1_a, z1_b, ee3, ee2⟩ := i2b_x (z := x0) (by omega) (by omega)
  refine lv_i2b (v := iI z1) hx hb dJ1_indexOfChar_4cfef_1 ee2 ?_
  refine lv_istore (lv' := [(4, .int (iI z1)), (0, .ref (T (60 + 0))), (1, .int (iI x0)), (2, .int (iI 0)), (3, .int (iI 6))]) hx hb dJ1_indexOfChar_4cfef_2 hl (by decide) rfl (fun ls hl => ?_)
  refine lv_iload_n hx hb dJ1_indexOfChar_4cfef_4 rfl (lv_at hl 3 rfl) ?_
  refine lv_istore (lv' := [(5, .int (iI 0)), (4, .int (iI z1)), (0, .ref (T (60 + 0))), (1, .int (iI x0)), (2, .int (iI 0)), (3, .int (iI 6))]) hx hb dJ1_indexOfChar_4cfef_5 hl (by decide) rfl (fun ls hl => ?_)
  refine lv_iload hx hb dJ1_indexOfChar_4cfef_7 (lv_at hl 0 rfl) ?_
  refine lv_iload_n hx hb dJ1_indexOfChar_4cfef_9 rfl (lv_at hl 5 rfl) ?_
  refine lv_icmp_ge (tgt := 31) hx hb dJ1_indexOfChar_4cfef_10 (by decide) (fun c => absurd c (by decide +kernel)) (fun _ => ?_)
  refine lv_aload_n hx hb dJ1_indexOfChar_4cfef_13 rfl (lv_at hl 2 rfl) ?_
  refine lv_iload hx hb dJ1_indexOfChar_4cfef_14 (lv_at hl 0 rfl) ?_
  refine r_sbytX M w 0 rfl (show vp_in (iI 0) 6 from (iI_in (by decide) (by decide) (by decide))) (z := 59) (by decide +kernel) dJ1_indexOfChar_4cfef_16 ?_
  refine lv_iload hx hb dJ1_indexOfChar_4cfef_17 (lv_at hl 1 rfl) ?_
  refine lv_icmp_ne (tgt := 25) hx hb dJ1_indexOfChar_4cfef_19 (by decide) (fun c_5 => ?_) (fun c_5 => ?_)
  · replace c_5 : ¬ 59 = z1 := fun h => c_5 ((iI_eq (by decide) (by decide) (Int.le_trans (by decide) z1_a) (Int.le_trans z1_b (by decide))).mpr h)
    refine lv_iinc (v := iI 1) (lv' := [(5, .int (iI 1)), (4, .int (iI z1)), (0, .ref (T (60 + 0))), (1, .int (iI x0)), (2, .int (iI 0)), (3, .int (iI 6))]) hx hb dJ1_indexOfChar_4cfef_25 hl (k := 0) rfl (by decide +kernel) (by decide) rfl (fun ls hl => ?_)
    refine lv_goto (tgt := 7) hx hb dJ1_indexOfChar_4cfef_28 (by decide) ?_
    refine lv_iload hx hb dJ1_indexOfChar_4cfef_7 (lv_at hl 0 rfl) ?_
    refine lv_iload_n hx hb dJ1_indexOfChar_4cfef_9 rfl (lv_at hl 5 rfl) ?_
    refine lv_icmp_ge (tgt := 31) hx hb dJ1_indexOfChar_4cfef_10 (by decide) (fun c => absurd c (by decide +kernel)) (fun _ => ?_)
    refine lv_aload_n hx hb dJ1_indexOfChar_4cfef_13 rfl (lv_at hl 2 rfl) ?_
    refine lv_iload hx hb dJ1_indexOfChar_4cfef_14 (lv_at hl 0 rfl) ?_
    refine r_sbytX M w 0 rfl (show vp_in (iI 1) 6 from (iI_in (by decide) (by decide) (by decide))) (z := 60) (by decide +kernel) dJ1_indexOfChar_4cfef_16 ?_
    refine lv_iload hx hb dJ1_indexOfChar_4cfef_17 (lv_at hl 1 rfl) ?_
    refine lv_icmp_ne (tgt := 25) hx hb dJ1_indexOfChar_4cfef_19 (by decide) (fun c_7 => ?_) (fun c_7 => ?_)
    · replace c_7 : ¬ 60 = z1 := fun h => c_7 ((iI_eq (by decide) (by decide) (Int.le_trans (by decide) z1_a) (Int.le_trans z1_b (by decide))).mpr h)
      refine lv_iinc (v := iI 2) (lv' := [(5, .int (iI 2)), (4, .int (iI z1)), (0, .ref (T (60 + 0))), (1, .int (iI x0)), (2, .int (iI 0)), (3, .int (iI 6))]) hx hb dJ1_indexOfChar_4cfef_25 hl (k := 0) rfl (by decide +kernel) (by decide) rfl (fun ls hl => ?_)
      refine lv_goto (tgt := 7) hx hb dJ1_indexOfChar_4cfef_28 (by decide) ?_
      refine lv_iload hx hb dJ1_indexOfChar_4cfef_7 (lv_at hl 0 rfl) ?_
      refine lv_iload_n hx hb dJ1_indexOfChar_4cfef_9 rfl (lv_at hl 5 rfl) ?_
      refine lv_icmp_ge (tgt := 31) hx hb dJ1_indexOfChar_4cfef_10 (by decide) (fun c => absurd c (by decide +kernel)) (fun _ => ?_)
      refine lv_aload_n hx hb dJ1_indexOfChar_4cfef_13 rfl (lv_at hl 2 rfl) ?_
      refine lv_iload hx hb dJ1_indexOfChar_4cfef_14 (lv_at hl 0 rfl) ?_
      refine r_sbytX M w 0 rfl (show vp_in (iI 2) 6 from (iI_in (by decide) (by decide) (by decide))) (z := 61) (by decide +kernel) dJ1_indexOfChar_4cfef_16 ?_
      refine lv_iload hx hb dJ1_indexOfChar_4cfef_17 (lv_at hl 1 rfl) ?_
      refine lv_icmp_ne (tgt := 25) hx hb dJ1_indexOfChar_4cfef_19 (by decide) (fun c_9 => ?_) (fun c_9 => ?_)
      · replace c_9 : ¬ 61 = z1 := fun h => c_9 ((iI_eq (by decide) (by decide) (Int.le_trans (by decide) z1_a) (Int.le_trans z1_b (by decide))).mpr h)
        refine lv_iinc (v := iI 3) (lv' := [(5, .int (iI 3)), (4, .int (iI z1)), (0, .ref (T (60 + 0))), (1, .int (iI x0)), (2, .int (iI 0)), (3, .int (iI 6))]) hx hb dJ1_indexOfChar_4cfef_25 hl (k := 0) rfl (by decide +kernel) (by decide) rfl (fun ls hl => ?_)
        refine lv_goto (tgt := 7) hx hb dJ1_indexOfChar_4cfef_28 (by decide) ?_
        refine lv_iload hx hb dJ1_indexOfChar_4cfef_7 (lv_at hl 0 rfl) ?_
        refine lv_iload_n hx hb dJ1_indexOfChar_4cfef_9 rfl (lv_at hl 5 rfl) ?_
        refine lv_icmp_ge (tgt := 31) hx hb dJ1_indexOfChar_4cfef_10 (by decide) (fun c => absurd c (by decide +kernel)) (fun _ => ?_)
        refine lv_aload_n hx hb dJ1_indexOfChar_4cfef_13 rfl (lv_at hl 2 rfl) ?_
        refine lv_iload hx hb dJ1_indexOfChar_4cfef_14 (lv_at hl 0 rfl) ?_
        refine r_sbytX M w 0 rfl (show vp_in (iI 3) 6 from (iI_in (by decide) (by decide) (by decide))) (z := 62) (by decide +kernel) dJ1_indexOfChar_4cfef_16 ?_
        refine lv_iload hx hb dJ1_indexOfChar_4cfef_17 (lv_at hl 1 rfl) ?_
        refine lv_icmp_ne (tgt := 25) hx hb dJ1_indexOfChar_4cfef_19 (by decide) (fun c_11 => ?_) (fun c_11 => ?_)
        · replace c_11 : ¬ 62 = z1 := fun h => c_11 ((iI_eq (by decide) (by decide) (Int.le_trans (by decide) z1_a) (Int.le_trans z1_b (by decide))).mpr h)
          refine lv_iinc (v := iI 4) (lv' := [(5, .int (iI 4)), (4, .int (iI z1)), (0, .ref (T (60 + 0))), (1, .int (iI x0)), (2, .int (iI 0)), (3, .int (iI 6))]) hx hb dJ1_indexOfChar_4cfef_25 hl (k := 0) rfl (by decide +kernel) (by decide) rfl (fun ls hl => ?_)
          refine lv_goto (tgt := 7) hx hb dJ1_indexOfChar_4cfef_28 (by decide) ?_
          refine lv_iload hx hb dJ1_indexOfChar_4cfef_7 (lv_at hl 0 rfl) ?_
          refine lv_iload_n hx hb dJ1_indexOfChar_4cfef_9 rfl (lv_at hl 5 rfl) ?_
          refine lv_icmp_ge (tgt := 31) hx hb dJ1_indexOfChar_4cfef_10 (by decide) (fun c => absurd c (by decide +kernel)) (fun _ => ?_)
          refine lv_aload_n hx hb dJ1_indexOfChar_4cfef_13 rfl (lv_at hl 2 rfl) ?_
          refine lv_iload hx hb dJ1_indexOfChar_4cfef_14 (lv_at hl 0 rfl) ?_
          refine r_sbytX M w 0 rfl (show vp_in (iI 4) 6 from (iI_in (by decide) (by decide) (by decide))) (z := 40) (by decide +kernel) dJ1_indexOfChar_4cfef_16 ?_
          refine lv_iload hx hb dJ1_indexOfChar_4cfef_17 (lv_at hl 1 rfl) ?_
          refine lv_icmp_ne (tgt := 25) hx hb dJ1_indexOfChar_4cfef_19 (by decide) (fun c_13 => ?_) (fun c_13 => ?_)
          · replace c_13 : ¬ 40 = z1 := fun h => c_13 ((iI_eq (by decide) (by decide) (Int.le_trans (by decide) z1_a) (Int.le_trans z1_b (by decide))).mpr h)
            refine lv_iinc (v := iI 5) (lv' := [(5, .int (iI 5)), (4, .int (iI z1)), (0, .ref (T (60 + 0))), (1, .int (iI x0)), (2, .int (iI 0)), (3, .int (iI 6))]) hx hb dJ1_indexOfChar_4cfef_25 hl (k := 0) rfl (by decide +kernel) (by decide) rfl (fun ls hl => ?_)
            refine lv_goto (tgt := 7) hx hb dJ1_indexOfChar_4cfef_28 (by decide) ?_
            refine lv_iload hx hb dJ1_indexOfChar_4cfef_7 (lv_at hl 0 rfl) ?_
            refine lv_iload_n hx hb dJ1_indexOfChar_4cfef_9 rfl (lv_at hl 5 rfl) ?_
            refine lv_icmp_ge (tgt := 31) hx hb dJ1_indexOfChar_4cfef_10 (by decide) (fun c => absurd c (by decide +kernel)) (fun _ => ?_)
            refine lv_aload_n hx hb dJ1_indexOfChar_4cfef_13 rfl (lv_at hl 2 rfl) ?_
            refine lv_iload hx hb dJ1_indexOfChar_4cfef_14 (lv_at hl 0 rfl) ?_
            refine r_sbytX M w 0 rfl (show vp_in (iI 5) 6 from (iI_in (by decide) (by decide) (by decide))) (z := 41) (by decide +kernel) dJ1_indexOfChar_4cfef_16 ?_
            refine lv_iload hx hb dJ1_indexOfChar_4cfef_17 (lv_at hl 1 rfl) ?_
            refine lv_icmp_ne (tgt := 25) hx hb dJ1_indexOfChar_4cfef_19 (by decide) (fun c_15 => ?_) (fun c_15 => ?_)
            · replace c_15 : ¬ 41 = z1 := fun h => c_15 ((iI_eq (by decide) (by decide) (Int.le_trans (by decide) z1_a) (Int.le_trans z1_b (by decide))).mpr h)
              refine lv_iinc (v := iI 6) (lv' := [(5, .int (iI 6)), (4, .int (iI z1)), (0, .ref (T (60 + 0))), (1, .int (iI x0)), (2, .int (iI 0)), (3, .int (iI 6))]) hx hb dJ1_indexOfChar_4cfef_25 hl (k := 0) rfl (by decide +kernel) (by decide) rfl (fun ls hl => ?_)
              refine lv_goto (tgt := 7) hx hb dJ1_indexOfChar_4cfef_28 (by decide) ?_
              refine lv_iload hx hb dJ1_indexOfChar_4cfef_7 (lv_at hl 0 rfl) ?_
              refine lv_iload_n hx hb dJ1_indexOfChar_4cfef_9 rfl (lv_at hl 5 rfl) ?_
              refine lv_icmp_ge (tgt := 31) hx hb dJ1_indexOfChar_4cfef_10 (by decide) (fun _ => ?_) (fun c => absurd (by decide +kernel) c)
              refine lv_iconst (v := iI (-1)) hx hb dJ1_indexOfChar_4cfef_31 (by decide +kernel) ?_
              exact ret _ (-1) _ _ _ _ _ [] dJ1_indexOfChar_4cfef_32 ⟨rfl, (show (-2147483648) ≤ (-1) from by decide), (show ((-1) : Int) ≤ 2147483647 from by decide), (show ioQ (-1) x0 from (by unfold ioQ mkS; omega))⟩ w (by decide) rfl
            · replace c_15 := (iI_eq (by decide) (by decide) (Int.le_trans (by decide) z1_a) (Int.le_trans z1_b (by decide))).mp c_15
              refine lv_iload hx hb dJ1_indexOfChar_4cfef_22 (lv_at hl 0 rfl) ?_
              exact ret _ 5 _ _ _ _ _ [] dJ1_indexOfChar_4cfef_24 ⟨rfl, (show (-2147483648) ≤ 5 from by decide), (show (5 : Int) ≤ 2147483647 from by decide), (show ioQ 5 x0 from (by unfold ioQ mkS; omega))⟩ w (by decide) rfl
          · replace c_13 := (iI_eq (by decide) (by decide) (Int.le_trans (by decide) z1_a) (Int.le_trans z1_b (by decide))).mp c_13
            refine lv_iload hx hb dJ1_indexOfChar_4cfef_22 (lv_at hl 0 rfl) ?_
            exact ret _ 4 _ _ _ _ _ [] dJ1_indexOfChar_4cfef_24 ⟨rfl, (show (-2147483648) ≤ 4 from by decide), (show (4 : Int) ≤ 2147483647 from by decide), (show ioQ 4 x0 from (by unfold ioQ mkS; omega))⟩ w (by decide) rfl
        · replace c_11 := (iI_eq (by decide) (by decide) (Int.le_trans (by decide) z1_a) (Int.le_trans z1_b (by decide))).mp c_11
          refine lv_iload hx hb dJ1_indexOfChar_4cfef_22 (lv_at hl 0 rfl) ?_
          exact ret _ 3 _ _ _ _ _ [] dJ1_indexOfChar_4cfef_24 ⟨rfl, (show (-2147483648) ≤ 3 from by decide), (show (3 : Int) ≤ 2147483647 from by decide), (show ioQ 3 x0 from (by unfold ioQ mkS; omega))⟩ w (by decide) rfl
      · replace c_9 := (iI_eq (by decide) (by decide) (Int.le_trans (by decide) z1_a) (Int.le_trans z1_b (by decide))).mp c_9
        refine lv_iload hx hb dJ1_indexOfChar_4cfef_22 (lv_at hl 0 rfl) ?_
        exact ret _ 2 _ _ _ _ _ [] dJ1_indexOfChar_4cfef_24 ⟨rfl, (show (-2147483648) ≤ 2 from by decide), (show (2 : Int) ≤ 2147483647 from by decide), (show ioQ 2 x0 from (by unfold ioQ mkS; omega))⟩ w (by decide) rfl
    · replace c_7 := (iI_eq (by decide) (by decide) (Int.le_trans (by decide) z1_a) (Int.le_trans z1_b (by decide))).mp c_7
      refine lv_iload hx hb dJ1_indexOfChar_4cfef_22 (lv_at hl 0 rfl) ?_
      exact ret _ 1 _ _ _ _ _ [] dJ1_indexOfChar_4cfef_24 ⟨rfl, (show (-2147483648) ≤ 1 from by decide), (show (1 : Int) ≤ 2147483647 from by decide), (show ioQ 1 x0 from (by unfold ioQ mkS; omega))⟩ w (by decide) rfl
  · replace c_5 := (iI_eq (by decide) (by decide) (Int.le_trans (by decide) z1_a) (Int.le_trans z1_b (by decide))).mp c_5
    refine lv_iload hx hb dJ1_indexOfChar_4cfef_22 (lv_at hl 0 rfl) ?_
    exact ret _ 0 _ _ _ _ _ [] dJ1_indexOfChar_4cfef_24 ⟨rfl, (show (-2147483648) ≤ 0 from by decide), (show (0 : Int) ≤ 2147483647 from by decide), (show ioQ 0 x0 from (by unfold ioQ mkS; omega))⟩ w (by decide) rfl
set_option maxRecDepth 100000 in
set_option maxHeartbeats 4000000 in
theorem c263_J1_indexOf_4cfef (l : Launch) (D : va_G) (T : Nat → ClassId) (sz : Nat) (x0 : Int) (x0_a : 0 ≤ x0) (x0_b : x0 ≤ 255) : Met l yJ1_indexOf_4cfef (Cond.code yJ1_indexOf_4cfef cJ1_indexOf_4cfef 4 (some .int) :: GW) (Rm 1 0 0) (cPre [.ref (T (60 + 0)), .int (iI x0), .int (iI 0), .int (iI 6)] D T [] sz) (qI D [] sz (fun (v : Int32) (u : Int) => iI u = v ∧ (-2147483648) ≤ u ∧ u ≤ 2147483647 ∧ (ioQ u x0)) (fun u => [])) 0 0 (va_A [] sz) := by
  refine e_I (by decide) (Nat.le_of_ble_eq_true rfl) ?_
  intro p e s m args below meth c A Q ls M hin w ret hl
  have hx := M.1.1
  have hb := M.1.2.1
  have hl : lv_has ls 4 [(0, .ref (T (60 + 0))), (1, .int (iI x0)), (2, .int (iI 0)), (3, .int (iI 6))] := hl
  refine lv_iload_n hx hb dJ1_indexOf_4cfef_0 rfl (lv_at hl 1 rfl) ?_
  refine k_I (ce := 0) (sl := 0) (rest := []) (wr := []) (r_S (f := 0) [] M w V_java_lang_StringLatin1_88 G635 (c261_J1_canEncode_9a6ad l D T _ x0 x0_a x0_b) rfl (by decide) rfl hl.1 rfl (Nat.le_of_ble_eq_true rfl) dJ1_indexOf_4cfef_1 (by decide) (by decide) (by decide) (by decide)) w [] [] rfl rfl (by decide) (by decide) rfl rfl (fun v z1 H locs hp w => ?_)
  have hv : iI z1 = v := hp.1
  subst hv
  have z1_a : 0 ≤ z1 := hp.2.1
  have z1_b : z1 ≤ 1 := hp.2.2.1
  have w : WD D A s.heap [] H locs := w
  rcases hp.2.2.2 with ⟨c_2, c_3, hr⟩
  · subst hr
    refine lv_if_ne (tgt := 9) hx hb dJ1_indexOf_4cfef_4 (by decide) (fun _ => ?_) (fun c => absurd c (by decide +kernel))
    refine lv_iload_n hx hb dJ1_indexOf_4cfef_9 rfl (lv_at hl 2 rfl) ?_
    refine lv_iconst (v := iI 0) hx hb dJ1_indexOf_4cfef_10 (by decide +kernel) ?_
    refine r_max (v := iI 0) M G637 G638 G136 G639 hl.1 (by decide) (Nat.le_of_ble_eq_true rfl) (by decide) (by decide) (by decide +kernel) dJ1_indexOf_4cfef_11 ?_
    refine lv_istore_n (lv' := [(2, .int (iI 0)), (0, .ref (T (60 + 0))), (1, .int (iI x0)), (3, .int (iI 6))]) hx hb dJ1_indexOf_4cfef_14 rfl hl (by decide) rfl (fun ls hl => ?_)
    refine lv_iload_n hx hb dJ1_indexOf_4cfef_15 rfl (lv_at hl 3 rfl) ?_
    refine lv_aload_n hx hb dJ1_indexOf_4cfef_16 rfl (lv_at hl 1 rfl) ?_
    refine r_slen M w 0 rfl (z := 6) (by decide +kernel) dJ1_indexOf_4cfef_17 ?_
    refine r_min (v := iI 6) M G640 G641 G136 G642 hl.1 (by decide) (Nat.le_of_ble_eq_true rfl) (by decide) (by decide) (by decide +kernel) dJ1_indexOf_4cfef_18 ?_
    refine lv_istore_n (lv' := [(3, .int (iI 6)), (2, .int (iI 0)), (0, .ref (T (60 + 0))), (1, .int (iI x0))]) hx hb dJ1_indexOf_4cfef_21 rfl hl (by decide) rfl (fun ls hl => ?_)
    refine lv_iload_n hx hb dJ1_indexOf_4cfef_22 rfl (lv_at hl 1 rfl) ?_
    refine lv_iload_n hx hb dJ1_indexOf_4cfef_23 rfl (lv_at hl 0 rfl) ?_
    refine lv_icmp_lt (tgt := 29) hx hb dJ1_indexOf_4cfef_24 (by decide) (fun _ => ?_) (fun c => absurd (by decide +kernel) c)
    refine lv_aload_n hx hb dJ1_indexOf_4cfef_29 rfl (lv_at hl 2 rfl) ?_
    refine lv_iload_n hx hb dJ1_indexOf_4cfef_30 rfl (lv_at hl 3 rfl) ?_
    refine lv_iload_n hx hb dJ1_indexOf_4cfef_31 rfl (lv_at hl 1 rfl) ?_
    refine lv_iload_n hx hb dJ1_indexOf_4cfef_32 rfl (lv_at hl 0 rfl) ?_
    refine k_I (ce := 0) (sl := 0) (rest := []) (wr := []) (r_S (f := 0) [] M w V_java_lang_StringLatin1_95 G644 (c262_J1_indexOfChar_4cfef l D T _ x0 x0_a x0_b) rfl (by decide) rfl hl.1 rfl (Nat.le_of_ble_eq_true rfl) dJ1_indexOf_4cfef_33 (by decide) (by decide) (by decide) (by decide)) w [] [] rfl rfl (by decide) (by decide) rfl rfl (fun v z4 H locs hp w => ?_)
    have hv : iI z4 = v := hp.1
    subst hv
    have z4_a : (-2147483648) ≤ z4 := hp.2.1
    have z4_b : z4 ≤ 2147483647 := hp.2.2.1
    have pq5 : ioQ z4 x0 := hp.2.2.2
    have w : WD D A s.heap [] H locs := w
    exact ret _ z4 _ _ _ _ _ [] dJ1_indexOf_4cfef_36 ⟨rfl, z4_a, z4_b, (show ioQ z4 x0 from pq5)⟩ w (by decide) rfl
set_option maxRecDepth 100000 in
set_option maxHeartbeats 4000000 in
theorem c264_J0_indexOf_7cf53 (l : Launch) (D : va_G) (T : Nat → ClassId) (sz : Nat) (x0 : Int) (x0_a : 0 ≤ x0) (x0_b : x0 ≤ 255) : Met l yJ0_indexOf_7cf53 (Cond.code yJ0_indexOf_7cf53 cJ0_indexOf_7cf53 3 (some .int) :: GW) (Rm 2 0 0) (cPre [.ref (T (50 + 0)), .int (iI x0), .int (iI 0)] D T [] sz) (qI D [] sz (fun (v : Int32) (u : Int) => iI u = v ∧ (-2147483648) ≤ u ∧ u ≤ 2147483647 ∧ (ioQ u x0)) (fun u => [])) 0 0 (va_A [] sz) := by
  refine e_I (by decide) (Nat.le_of_ble_eq_true rfl) ?_
  intro p e s m args below meth c A Q ls M hin w ret hl
  have hx := M.1.1
  have hb := M.1.2.1
  have hl : lv_has ls 3 [(0, .ref (T (50 + 0))), (1, .int (iI x0)), (2, .int (iI 0))] := hl
  refine lv_aload_n hx hb dJ0_indexOf_7cf53_0 rfl (lv_at hl 0 rfl) ?_
  refine k_I (ce := 0) (sl := 0) (rest := []) (wr := []) (r_VT (f := 0) [] M w V_java_lang_String_492 G618 G619 (c258_J0_isLatin1_aae02 l D T _) (M.2.2.2.2.2.2.1.2 0 _ rfl).1 rfl (by decide) rfl hl.1 rfl (Nat.le_of_ble_eq_true rfl) dJ0_indexOf_7cf53_1 (by decide) (by decide) (by decide) (by decide)) w [] [] rfl rfl (by decide) (by decide) rfl rfl (fun v z1 H locs hp w => ?_)
  have hv : iI z1 = v := hp.1
  subst hv
  have z1_a : 0 ≤ z1 := hp.2.1
  have z1_b : z1 ≤ 1 := hp.2.2.1
  have w : WD D A s.heap [] H locs := w
  rcases hp.2.2.2 with hr
  · subst hr
    refine lv_if_eq (tgt := 23) hx hb dJ0_indexOf_7cf53_4 (by decide) (fun c => absurd c (by decide +kernel)) (fun _ => ?_)
    refine lv_aload_n hx hb dJ0_indexOf_7cf53_7 rfl (lv_at hl 0 rfl) ?_
    refine r_sval M w 0 rfl G2086 dJ0_indexOf_7cf53_8 ?_
    refine lv_iload_n hx hb dJ0_indexOf_7cf53_11 rfl (lv_at hl 1 rfl) ?_
    refine lv_iload_n hx hb dJ0_indexOf_7cf53_12 rfl (lv_at hl 2 rfl) ?_
    refine lv_aload_n hx hb dJ0_indexOf_7cf53_13 rfl (lv_at hl 0 rfl) ?_
    refine k_I (ce := 0) (sl := 0) (rest := [.int (iI 0), .int (iI x0), .ref (T (60 + 0))]) (wr := []) (r_VT (f := 1) [] M w V_java_lang_String_505 G624 G625 (c260_J0_length_8abf5 l D T _) (M.2.2.2.2.2.2.1.2 0 _ rfl).1 rfl (by decide) rfl hl.1 rfl (Nat.le_of_ble_eq_true rfl) dJ0_indexOf_7cf53_14 (by decide) (by decide) (by decide) (by decide)) w [] [] rfl rfl (by decide) (by decide) rfl rfl (fun v z2 H locs hp w => ?_)
    have hv : iI z2 = v := hp.1
    subst hv
    have z2_a : (-2147483648) ≤ z2 := hp.2.1
    have z2_b : z2 ≤ 2147483647 := hp.2.2.1
    have w : WD D A s.heap [] H locs := w
    rcases hp.2.2.2 with hr
    · subst hr
      refine k_I (ce := 0) (sl := 0) (rest := []) (wr := []) (r_S (f := 1) [] M w V_java_lang_String_637 G632 (c263_J1_indexOf_4cfef l D T _ x0 x0_a x0_b) rfl (by decide) rfl hl.1 rfl (Nat.le_of_ble_eq_true rfl) dJ0_indexOf_7cf53_17 (by decide) (by decide) (by decide) (by decide)) w [] [] rfl rfl (by decide) (by decide) rfl rfl (fun v z3 H locs hp w => ?_)
      have hv : iI z3 = v := hp.1
      subst hv
      have z3_a : (-2147483648) ≤ z3 := hp.2.1
      have z3_b : z3 ≤ 2147483647 := hp.2.2.1
      have pq4 : ioQ z3 x0 := hp.2.2.2
      have w : WD D A s.heap [] H locs := w
      refine lv_goto (tgt := 36) hx hb dJ0_indexOf_7cf53_20 (by decide) ?_
      exact ret _ z3 _ _ _ _ _ [] dJ0_indexOf_7cf53_36 ⟨rfl, z3_a, z3_b, (show ioQ z3 x0 from pq4)⟩ w (by decide) rfl
set_option maxRecDepth 100000 in
set_option maxHeartbeats 4000000 in
theorem c265_J0_indexOf_0f7a4 (l : Launch) (D : va_G) (T : Nat → ClassId) (sz : Nat) (x0 : Int) (x0_a : 0 ≤ x0) (x0_b : x0 ≤ 255) : Met l yJ0_indexOf_0f7a4 (Cond.code yJ0_indexOf_0f7a4 cJ0_indexOf_0f7a4 2 (some .int) :: GW) (Rm 3 0 0) (cPre [.ref (T (50 + 0)), .int (iI x0)] D T [] sz) (qI D [] sz (fun (v : Int32) (u : Int) => iI u = v ∧ (-2147483648) ≤ u ∧ u ≤ 2147483647 ∧ (ioQ u x0)) (fun u => [])) 0 0 (va_A [] sz) := by
  refine e_I (by decide) (Nat.le_of_ble_eq_true rfl) ?_
  intro p e s m args below meth c A Q ls M hin w ret hl
  have hx := M.1.1
  have hb := M.1.2.1
  have hl : lv_has ls 2 [(0, .ref (T (50 + 0))), (1, .int (iI x0))] := hl
  refine lv_aload_n hx hb dJ0_indexOf_0f7a4_0 rfl (lv_at hl 0 rfl) ?_
  refine lv_iload_n hx hb dJ0_indexOf_0f7a4_1 rfl (lv_at hl 1 rfl) ?_
  refine lv_iconst (v := iI 0) hx hb dJ0_indexOf_0f7a4_2 (by decide +kernel) ?_
  refine k_I (ce := 0) (sl := 0) (rest := []) (wr := []) (r_VT (f := 2) [] M w V_java_lang_String_633 G614 G615 (c264_J0_indexOf_7cf53 l D T _ x0 x0_a x0_b) (M.2.2.2.2.2.2.1.2 0 _ rfl).1 rfl (by decide) rfl hl.1 rfl (Nat.le_of_ble_eq_true rfl) dJ0_indexOf_0f7a4_3 (by decide) (by decide) (by decide) (by decide)) w [] [] rfl rfl (by decide) (by decide) rfl rfl (fun v z1 H locs hp w => ?_)
  have hv : iI z1 = v := hp.1
  subst hv
  have z1_a : (-2147483648) ≤ z1 := hp.2.1
  have z1_b : z1 ≤ 2147483647 := hp.2.2.1
  have pq2 : ioQ z1 x0 := hp.2.2.2
  have w : WD D A s.heap [] H locs := w
  exact ret _ z1 _ _ _ _ _ [] dJ0_indexOf_0f7a4_6 ⟨rfl, z1_a, z1_b, (show ioQ z1 x0 from pq2)⟩ w (by decide) rfl
set_option maxRecDepth 100000 in
set_option maxHeartbeats 4000000 in
theorem c266_X8_step (l : Launch) (D : va_G) (T : Nat → ClassId) (sz : Nat) (a0 : Nat) (a1 : Nat) (x0 : Int) (x1 : Int) (x2 : Int) (x3 : Int) (x4 : Int) (o0 : Option Nat) (y0 : Int64) (r0 : Int32) (x5 : Int) (x6 : Int) (x7 : Int) (f0 : Int → Int) (x0_a : 0 ≤ x0) (x0_b : x0 ≤ 940) (x1_a : 0 ≤ x1) (x1_b : x1 ≤ 940) (x2_a : 0 ≤ x2) (x2_b : x2 ≤ 940) (x3_a : 0 ≤ x3) (x3_b : x3 ≤ 940) (x4_a : 0 ≤ x4) (x4_b : x4 ≤ 5) (o0_h : wok T o0) (x5_a : (-2147483648) ≤ x5) (x5_b : x5 ≤ 2147483647) (x6_a : (-2147483648) ≤ x6) (x6_b : x6 ≤ 2147483647) (x7_a : 0 ≤ x7) (x7_b : x7 ≤ 940) (f0_h : rng 0 255 f0) : Met l yX8_step (Cond.code yX8_step cX8_step 1 none :: GW) (Rm 4 0 0) (cPre [.ref a0] D T [(a0, .inr (8, [.ref a1, .int (iI x0), .int (iI x1), .int (iI x2), .int (iI x3), .int (iI x4), (va_rf o0), .long y0, .int r0, .int (iI x5), .int (iI x6), .int (iI x7)])), (a1, .inl (T 0, 940, .inl (cI f0)))] sz) (qV D [(a0, .inr (8, [.ref a1, .int (iI x0), .int (iI x1), .int (iI x2), .int (iI x3), .int (iI x4), (va_rf o0), .long y0, .int r0, .int (iI x5), .int (iI x6), .int (iI x7)])), (a1, .inl (T 0, 940, .inl (cI f0)))] sz (fun (u : Int × Int × Int × Option Nat × Int64 × Int32 × Int) => 0 ≤ u.1 ∧ u.1 ≤ 940 ∧ 0 ≤ u.2.1 ∧ u.2.1 ≤ 940 ∧ 0 ≤ u.2.2.1 ∧ u.2.2.1 ≤ 5 ∧ wok T u.2.2.2.1 ∧ (-2147483648) ≤ u.2.2.2.2.2.2 ∧ u.2.2.2.2.2.2 ≤ 2147483647 ∧ (gC T (tkAt f0 x0 x1 x2) u.2.2.1 u.2.1 u.1 u.2.2.2.2.1 u.2.2.2.2.2.1 u.2.2.2.2.2.2 u.2.2.2.1)) (fun u => [(a0, .inr (8, [.ref a1, .int (iI x0), .int (iI x1), .int (iI u.1), .int (iI u.2.1), .int (iI u.2.2.1), (va_rf u.2.2.2.1), .long u.2.2.2.2.1, .int u.2.2.2.2.2.1, .int (iI u.2.2.2.2.2.2), .int (iI x6), .int (iI x7)])), (a1, .inl (T 0, 940, .inl (cI f0)))])) 0 0 (va_A [(a0, .inr (8, [.ref a1, .int (iI x0), .int (iI x1), .int (iI x2), .int (iI x3), .int (iI x4), (va_rf o0), .long y0, .int r0, .int (iI x5), .int (iI x6), .int (iI x7)])), (a1, .inl (T 0, 940, .inl (cI f0)))] sz) := by
  refine e_V (by decide) (Nat.le_of_ble_eq_true rfl) ?_
  intro p e s m args below meth c A Q ls M hin w ret hl
  have hx := M.1.1
  have hb := M.1.2.1
  have hl : lv_has ls 1 [(0, .ref a0)] := hl
  have loop1 : ∀ (k1 : Nat) (z1 : Int) (H : Heap) (locs : List Loc) (ls : Array Slot), 0 ≤ z1 → z1 ≤ 940 → sk f0 x0 x2 = sk f0 x0 z1 → ((x0 - z1) : Int).toNat < k1 → WD D A s.heap [(a0, .inr (8, [.ref a1, .int (iI x0), .int (iI x1), .int (iI z1), .int (iI x3), .int (iI x4), (va_rf o0), .long y0, .int r0, .int (iI x5), .int (iI x6), .int (iI x7)])), (a1, .inl (T 0, 940, .inl (cI f0)))] H locs → lv_has ls 1 [(0, .ref a0)] → W p l e (Rm 4 0 0) s m args below meth c H locs 0 0 Q (F0 m 0 ls []) := by
    intro k1
    induction k1 with
    | zero => intro z1 H locs ls z1_a z1_b lq1_s hm; exact absurd hm (Nat.not_lt_zero _)
    | succ k1 ih1 =>
      intro z1 H locs ls z1_a z1_b lq1_s hm1 w hl
      refine lv_aload_n hx hb dX8_step_0 rfl (lv_at hl 0 rfl) ?_
      refine r_get (v := .int (iI z1)) M w 0 3 clX8 rfl (by decide) G166 rfl rfl dX8_step_1 ?_
      refine lv_aload_n hx hb dX8_step_4 rfl (lv_at hl 0 rfl) ?_
      refine r_get (v := .int (iI x0)) M w 0 1 clX8 rfl (by decide) G162 rfl rfl dX8_step_5 ?_
      refine lv_icmp_ge (tgt := 52) hx hb dX8_step_8 (by decide) (fun c_2 => ?_) (fun c_2 => ?_)
      · replace c_2 := (iI_le (Int.le_trans (by decide) x0_a) (Int.le_trans x0_b (by decide)) (Int.le_trans (by decide) z1_a) (Int.le_trans z1_b (by decide))).mp c_2
        refine lv_aload_n hx hb dX8_step_52 rfl (lv_at hl 0 rfl) ?_
        refine lv_aload_n hx hb dX8_step_53 rfl (lv_at hl 0 rfl) ?_
        refine r_get (v := .int (iI z1)) M w 0 3 clX8 rfl (by decide) G166 rfl rfl dX8_step_54 ?_
        refine r_put (ws' := [(a0, .inr (8, [.ref a1, .int (iI x0), .int (iI x1), .int (iI z1), .int (iI z1), .int (iI x4), (va_rf o0), .long y0, .int r0, .int (iI x5), .int (iI x6), .int (iI x7)])), (a1, .inl (T 0, 940, .inl (cI f0)))]) M w 0 4 clX8 rfl (by decide) G167 rfl rfl rfl rfl (Nat.le_of_ble_eq_true rfl) rfl dX8_step_57 (fun H locs w => ?_)
        refine lv_aload_n hx hb dX8_step_60 rfl (lv_at hl 0 rfl) ?_
        refine lv_null hx hb dX8_step_61 ?_
        refine r_put (ws' := [(a0, .inr (8, [.ref a1, .int (iI x0), .int (iI x1), .int (iI z1), .int (iI z1), .int (iI x4), .null, .long y0, .int r0, .int (iI x5), .int (iI x6), .int (iI x7)])), (a1, .inl (T 0, 940, .inl (cI f0)))]) M w 0 6 clX8 rfl (by decide) G170 rfl rfl rfl rfl (Nat.le_of_ble_eq_true rfl) rfl dX8_step_62 (fun H locs w => ?_)
        refine lv_aload_n hx hb dX8_step_65 rfl (lv_at hl 0 rfl) ?_
        refine r_get (v := .int (iI x0)) M w 0 1 clX8 rfl (by decide) G162 rfl rfl dX8_step_66 ?_
        refine lv_aload_n hx hb dX8_step_69 rfl (lv_at hl 0 rfl) ?_
        refine r_get (v := .int (iI x1)) M w 0 2 clX8 rfl (by decide) G165 rfl rfl dX8_step_70 ?_
        refine lv_icmp_le (tgt := 103) hx hb dX8_step_73 (by decide) (fun c_3 => ?_) (fun c_3 => ?_)
        · replace c_3 := (iI_le (Int.le_trans (by decide) x0_a) (Int.le_trans x0_b (by decide)) (Int.le_trans (by decide) x1_a) (Int.le_trans x1_b (by decide))).mp c_3
          refine lv_aload_n hx hb dX8_step_103 rfl (lv_at hl 0 rfl) ?_
          refine r_get (v := .int (iI z1)) M w 0 3 clX8 rfl (by decide) G166 rfl rfl dX8_step_104 ?_
          refine lv_aload_n hx hb dX8_step_107 rfl (lv_at hl 0 rfl) ?_
          refine r_get (v := .int (iI x0)) M w 0 1 clX8 rfl (by decide) G162 rfl rfl dX8_step_108 ?_
          refine lv_icmp_lt (tgt := 122) hx hb dX8_step_111 (by decide) (fun c_4 => ?_) (fun c_4 => ?_)
          · replace c_4 := (iI_lt (Int.le_trans (by decide) z1_a) (Int.le_trans z1_b (by decide)) (Int.le_trans (by decide) x0_a) (Int.le_trans x0_b (by decide))).mp c_4
            exfalso; omega
          · replace c_4 : x0 ≤ z1 := Int.not_lt.mp (fun h => c_4 ((iI_lt (Int.le_trans (by decide) z1_a) (Int.le_trans z1_b (by decide)) (Int.le_trans (by decide) x0_a) (Int.le_trans x0_b (by decide))).mpr h))
            refine lv_aload_n hx hb dX8_step_114 rfl (lv_at hl 0 rfl) ?_
            refine lv_iconst (v := iI 0) hx hb dX8_step_115 (by decide +kernel) ?_
            refine r_put (ws' := [(a0, .inr (8, [.ref a1, .int (iI x0), .int (iI x1), .int (iI z1), .int (iI z1), .int (iI 0), .null, .long y0, .int r0, .int (iI x5), .int (iI x6), .int (iI x7)])), (a1, .inl (T 0, 940, .inl (cI f0)))]) M w 0 5 clX8 rfl (by decide) G168 rfl rfl rfl rfl (Nat.le_of_ble_eq_true rfl) rfl dX8_step_116 (fun H locs w => ?_)
            refine lv_goto (tgt := 204) hx hb dX8_step_119 (by decide) ?_
            exact ret (z1, z1, 0, none, y0, r0, x5) _ _ _ _ _ [0, 1] dX8_step_204 ⟨z1_a, z1_b, z1_a, z1_b, (show (0 : Int) ≤ 0 from by decide), (show (0 : Int) ≤ 5 from by decide), wok_n, x5_a, x5_b, (show gC T (tkAt f0 x0 x1 x2) 0 z1 z1 y0 r0 x5 none from (by rw [tk_stop (lq1_s.trans (sk_e (by omega))) (by omega) (by omega)]; exact ⟨rfl, rfl, rfl, rfl⟩))⟩ w (by decide) rfl
        · replace c_3 : x1 < x0 := Int.not_le.mp (fun h => c_3 ((iI_le (Int.le_trans (by decide) x0_a) (Int.le_trans x0_b (by decide)) (Int.le_trans (by decide) x1_a) (Int.le_trans x1_b (by decide))).mpr h))
          refine lv_aload_n hx hb dX8_step_76 rfl (lv_at hl 0 rfl) ?_
          refine r_get (v := .int (iI z1)) M w 0 3 clX8 rfl (by decide) G166 rfl rfl dX8_step_77 ?_
          refine lv_aload_n hx hb dX8_step_80 rfl (lv_at hl 0 rfl) ?_
          refine r_get (v := .int (iI x1)) M w 0 2 clX8 rfl (by decide) G165 rfl rfl dX8_step_81 ?_
          refine lv_icmp_lt (tgt := 103) hx hb dX8_step_84 (by decide) (fun c_5 => ?_) (fun c_5 => ?_)
          · replace c_5 := (iI_lt (Int.le_trans (by decide) z1_a) (Int.le_trans z1_b (by decide)) (Int.le_trans (by decide) x1_a) (Int.le_trans x1_b (by decide))).mp c_5
            exfalso; omega
          · replace c_5 : x1 ≤ z1 := Int.not_lt.mp (fun h => c_5 ((iI_lt (Int.le_trans (by decide) z1_a) (Int.le_trans z1_b (by decide)) (Int.le_trans (by decide) x1_a) (Int.le_trans x1_b (by decide))).mpr h))
            refine lv_aload_n hx hb dX8_step_87 rfl (lv_at hl 0 rfl) ?_
            refine lv_aload_n hx hb dX8_step_88 rfl (lv_at hl 0 rfl) ?_
            refine r_get (v := .int (iI x1)) M w 0 2 clX8 rfl (by decide) G165 rfl rfl dX8_step_89 ?_
            refine r_put (ws' := [(a0, .inr (8, [.ref a1, .int (iI x0), .int (iI x1), .int (iI z1), .int (iI x1), .int (iI x4), .null, .long y0, .int r0, .int (iI x5), .int (iI x6), .int (iI x7)])), (a1, .inl (T 0, 940, .inl (cI f0)))]) M w 0 4 clX8 rfl (by decide) G167 rfl rfl rfl rfl (Nat.le_of_ble_eq_true rfl) rfl dX8_step_92 (fun H locs w => ?_)
            refine lv_aload_n hx hb dX8_step_95 rfl (lv_at hl 0 rfl) ?_
            refine lv_iconst (v := iI 1) hx hb dX8_step_96 (by decide +kernel) ?_
            refine r_put (ws' := [(a0, .inr (8, [.ref a1, .int (iI x0), .int (iI x1), .int (iI z1), .int (iI x1), .int (iI 1), .null, .long y0, .int r0, .int (iI x5), .int (iI x6), .int (iI x7)])), (a1, .inl (T 0, 940, .inl (cI f0)))]) M w 0 5 clX8 rfl (by decide) G168 rfl rfl rfl rfl (Nat.le_of_ble_eq_true rfl) rfl dX8_step_97 (fun H locs w => ?_)
            refine lv_goto (tgt := 204) hx hb dX8_step_100 (by decide) ?_
            exact ret (z1, x1, 1, none, y0, r0, x5) _ _ _ _ _ [0, 1] dX8_step_204 ⟨z1_a, z1_b, x1_a, x1_b, (show (0 : Int) ≤ 1 from by decide), (show (1 : Int) ≤ 5 from by decide), wok_n, x5_a, x5_b, (show gC T (tkAt f0 x0 x1 x2) 1 x1 z1 y0 r0 x5 none from (by rw [tk_lim (lq1_s.trans (sk_e (by omega))) (by omega) (by omega)]; exact ⟨rfl, rfl, rfl, rfl⟩))⟩ w (by decide) rfl
      · replace c_2 : z1 < x0 := Int.not_le.mp (fun h => c_2 ((iI_le (Int.le_trans (by decide) x0_a) (Int.le_trans x0_b (by decide)) (Int.le_trans (by decide) z1_a) (Int.le_trans z1_b (by decide))).mpr h))
        refine lv_aload_n hx hb dX8_step_11 rfl (lv_at hl 0 rfl) ?_
        refine r_get (v := .ref a1) M w 0 0 clX8 rfl (by decide) G160 rfl rfl dX8_step_12 ?_
        refine lv_aload_n hx hb dX8_step_15 rfl (lv_at hl 0 rfl) ?_
        refine r_get (v := .int (iI z1)) M w 0 3 clX8 rfl (by decide) G166 rfl rfl dX8_step_16 ?_
        refine r_iald (v := iI (f0 z1)) M w 1 rfl (iI_in (by omega) (by omega) (by decide)) (cI_at (by omega) (by omega)) dX8_step_19 ?_
        have hh6 : 0 ≤ (f0 z1) ∧ (f0 z1) ≤ 255 := f0_h z1
        refine lv_bipush (v := iI 32) hx hb dX8_step_20 (by decide +kernel) ?_
        refine lv_icmp_eq (tgt := 39) hx hb dX8_step_22 (by decide) (fun c_7 => ?_) (fun c_7 => ?_)
        · replace c_7 := (iI_eq (by omega) (by omega) (by decide) (by decide)).mp c_7
          refine lv_aload_n hx hb dX8_step_39 rfl (lv_at hl 0 rfl) ?_
          refine lv_dup hx hb dX8_step_40 rfl ?_
          refine r_get (v := .int (iI z1)) M w 0 3 clX8 rfl (by decide) G166 rfl rfl dX8_step_41 ?_
          refine lv_iconst (v := iI 1) hx hb dX8_step_44 (by decide +kernel) ?_
          refine r_iadd (v := iI (z1 + 1)) M (iI_add _ _) dX8_step_45 ?_
          refine r_put (ws' := [(a0, .inr (8, [.ref a1, .int (iI x0), .int (iI x1), .int (iI (z1 + 1)), .int (iI x3), .int (iI x4), (va_rf o0), .long y0, .int r0, .int (iI x5), .int (iI x6), .int (iI x7)])), (a1, .inl (T 0, 940, .inl (cI f0)))]) M w 0 3 clX8 rfl (by decide) G166 rfl rfl rfl rfl (Nat.le_of_ble_eq_true rfl) rfl dX8_step_46 (fun H locs w => ?_)
          refine lv_goto (tgt := 0) hx hb dX8_step_49 (by decide) ?_
          exact ih1 (z1 + 1) _ _ _ (by omega) (by omega) (lq1_s.trans (sk_t (by omega) (by omega))) (by omega) w (lv_sub hl [0] rfl)
        · replace c_7 : ¬ (f0 z1) = 32 := fun h => c_7 ((iI_eq (by omega) (by omega) (by decide) (by decide)).mpr h)
          refine lv_aload_n hx hb dX8_step_25 rfl (lv_at hl 0 rfl) ?_
          refine r_get (v := .ref a1) M w 0 0 clX8 rfl (by decide) G160 rfl rfl dX8_step_26 ?_
          refine lv_aload_n hx hb dX8_step_29 rfl (lv_at hl 0 rfl) ?_
          refine r_get (v := .int (iI z1)) M w 0 3 clX8 rfl (by decide) G166 rfl rfl dX8_step_30 ?_
          refine r_iald (v := iI (f0 z1)) M w 1 rfl (iI_in (by omega) (by omega) (by decide)) (cI_at (by omega) (by omega)) dX8_step_33 ?_
          have hh8 : 0 ≤ (f0 z1) ∧ (f0 z1) ≤ 255 := f0_h z1
          refine lv_bipush (v := iI 10) hx hb dX8_step_34 (by decide +kernel) ?_
          refine lv_icmp_ne (tgt := 52) hx hb dX8_step_36 (by decide) (fun c_9 => ?_) (fun c_9 => ?_)
          · replace c_9 : ¬ (f0 z1) = 10 := fun h => c_9 ((iI_eq (by omega) (by omega) (by decide) (by decide)).mpr h)
            refine lv_aload_n hx hb dX8_step_52 rfl (lv_at hl 0 rfl) ?_
            refine lv_aload_n hx hb dX8_step_53 rfl (lv_at hl 0 rfl) ?_
            refine r_get (v := .int (iI z1)) M w 0 3 clX8 rfl (by decide) G166 rfl rfl dX8_step_54 ?_
            refine r_put (ws' := [(a0, .inr (8, [.ref a1, .int (iI x0), .int (iI x1), .int (iI z1), .int (iI z1), .int (iI x4), (va_rf o0), .long y0, .int r0, .int (iI x5), .int (iI x6), .int (iI x7)])), (a1, .inl (T 0, 940, .inl (cI f0)))]) M w 0 4 clX8 rfl (by decide) G167 rfl rfl rfl rfl (Nat.le_of_ble_eq_true rfl) rfl dX8_step_57 (fun H locs w => ?_)
            refine lv_aload_n hx hb dX8_step_60 rfl (lv_at hl 0 rfl) ?_
            refine lv_null hx hb dX8_step_61 ?_
            refine r_put (ws' := [(a0, .inr (8, [.ref a1, .int (iI x0), .int (iI x1), .int (iI z1), .int (iI z1), .int (iI x4), .null, .long y0, .int r0, .int (iI x5), .int (iI x6), .int (iI x7)])), (a1, .inl (T 0, 940, .inl (cI f0)))]) M w 0 6 clX8 rfl (by decide) G170 rfl rfl rfl rfl (Nat.le_of_ble_eq_true rfl) rfl dX8_step_62 (fun H locs w => ?_)
            refine lv_aload_n hx hb dX8_step_65 rfl (lv_at hl 0 rfl) ?_
            refine r_get (v := .int (iI x0)) M w 0 1 clX8 rfl (by decide) G162 rfl rfl dX8_step_66 ?_
            refine lv_aload_n hx hb dX8_step_69 rfl (lv_at hl 0 rfl) ?_
            refine r_get (v := .int (iI x1)) M w 0 2 clX8 rfl (by decide) G165 rfl rfl dX8_step_70 ?_
            refine lv_icmp_le (tgt := 103) hx hb dX8_step_73 (by decide) (fun c_10 => ?_) (fun c_10 => ?_)
            · replace c_10 := (iI_le (Int.le_trans (by decide) x0_a) (Int.le_trans x0_b (by decide)) (Int.le_trans (by decide) x1_a) (Int.le_trans x1_b (by decide))).mp c_10
              refine lv_aload_n hx hb dX8_step_103 rfl (lv_at hl 0 rfl) ?_
              refine r_get (v := .int (iI z1)) M w 0 3 clX8 rfl (by decide) G166 rfl rfl dX8_step_104 ?_
              refine lv_aload_n hx hb dX8_step_107 rfl (lv_at hl 0 rfl) ?_
              refine r_get (v := .int (iI x0)) M w 0 1 clX8 rfl (by decide) G162 rfl rfl dX8_step_108 ?_
              refine lv_icmp_lt (tgt := 122) hx hb dX8_step_111 (by decide) (fun c_11 => ?_) (fun c_11 => ?_)
              · replace c_11 := (iI_lt (Int.le_trans (by decide) z1_a) (Int.le_trans z1_b (by decide)) (Int.le_trans (by decide) x0_a) (Int.le_trans x0_b (by decide))).mp c_11
                refine lv_aload_n hx hb dX8_step_122 rfl (lv_at hl 0 rfl) ?_
                refine r_get (v := .ref a1) M w 0 0 clX8 rfl (by decide) G160 rfl rfl dX8_step_123 ?_
                refine lv_aload_n hx hb dX8_step_126 rfl (lv_at hl 0 rfl) ?_
                refine r_get (v := .int (iI z1)) M w 0 3 clX8 rfl (by decide) G166 rfl rfl dX8_step_127 ?_
                refine r_iald (v := iI (f0 z1)) M w 1 rfl (iI_in (by omega) (by omega) (by decide)) (cI_at (by omega) (by omega)) dX8_step_130 ?_
                have hh12 : 0 ≤ (f0 z1) ∧ (f0 z1) ≤ 255 := f0_h z1
                refine k_I (ce := 0) (sl := 0) (rest := []) (wr := [(a0, .inr (8, [.ref a1, .int (iI x0), .int (iI x1), .int (iI z1), .int (iI z1), .int (iI x4), .null, .long y0, .int r0, .int (iI x5), .int (iI x6), .int (iI x7)])), (a1, .inl (T 0, 940, .inl (cI f0)))]) (r_S (f := 0) [] M w V_HookedCity_Tape_58 G591 (c253_X8_isLetter l D T _ (f0 z1) (by omega) (by omega)) rfl (by decide) rfl hl.1 rfl (Nat.le_of_ble_eq_true rfl) dX8_step_131 (by decide) (by decide) (by decide) (by decide)) w [] [0, 1] rfl rfl (by decide) (by decide) rfl rfl (fun v z13 H locs hp w => ?_)
                have hv : iI z13 = v := hp.1
                subst hv
                have z13_a : 0 ≤ z13 := hp.2.1
                have z13_b : z13 ≤ 1 := hp.2.2.1
                have pq14 : lq z13 (f0 z1) 97 122 := hp.2.2.2
                have w : WD D A s.heap [(a0, .inr (8, [.ref a1, .int (iI x0), .int (iI x1), .int (iI z1), .int (iI z1), .int (iI x4), .null, .long y0, .int r0, .int (iI x5), .int (iI x6), .int (iI x7)])), (a1, .inl (T 0, 940, .inl (cI f0)))] H locs := w
                refine lv_if_ne (tgt := 152) hx hb dX8_step_134 (by decide) (fun c_15 => ?_) (fun c_15 => ?_)
                · replace c_15 : ¬ z13 = 0 := fun h => c_15 ((iz_eq (Int.le_trans (by decide) z13_a) (Int.le_trans z13_b (by decide))).mpr h)
                  refine lv_aload_n hx hb dX8_step_152 rfl (lv_at hl 0 rfl) ?_
                  refine k_V (ce := 0) (sl := 0) (rest := []) (wr := []) (r_V (f := 1) [0, 1] M w V_HookedCity_Tape_65 G598 G2 (c257_X8_readRun l D T _ a0 a1 x0 x1 z1 z1 x4 none y0 r0 x5 x6 x7 f0 x0_a x0_b x1_a x1_b z1_a z1_b z1_a z1_b x4_a x4_b wok_n x5_a x5_b x6_a x6_b x7_a x7_b f0_h) 0 clX8 rfl rfl (by decide) rfl hl.1 rfl (Nat.le_of_ble_eq_true rfl) dX8_step_153 (by decide) (by decide) (by decide) (by decide)) w [0, 1] [] rfl rfl (by decide) (by decide) rfl rfl (fun u H locs hp w => ?_)
                  obtain ⟨z16, z17, fo18, fy19, fr20⟩ := u
                  have z16_a : 0 ≤ z16 := hp.1
                  have z16_b : z16 ≤ 940 := hp.2.1
                  have z17_a : 0 ≤ z17 := hp.2.2.1
                  have z17_b : z17 ≤ 5 := hp.2.2.2.1
                  have fo18_h : wok T fo18 := hp.2.2.2.2.1
                  have pq21 : none = none → cR T f0 x0 z1 z17 z16 fy19 fr20 fo18 := hp.2.2.2.2.2
                  have w : WD D A s.heap [(a0, .inr (8, [.ref a1, .int (iI x0), .int (iI x1), .int (iI z16), .int (iI z1), .int (iI z17), (va_rf fo18), .long fy19, .int fr20, .int (iI x5), .int (iI x6), .int (iI x7)])), (a1, .inl (T 0, 940, .inl (cI f0)))] H locs := w
                  refine lv_goto (tgt := 204) hx hb dX8_step_156 (by decide) ?_
                  exact ret (z16, z1, z17, fo18, fy19, fr20, x5) _ _ _ _ _ [0, 1] dX8_step_204 ⟨z16_a, z16_b, z1_a, z1_b, z17_a, z17_b, fo18_h, x5_a, x5_b, (show gC T (tkAt f0 x0 x1 x2) z17 z1 z16 fy19 fr20 x5 fo18 from (by have hR := pq21 rfl; rw [tk_run (lq1_s.trans (sk_e (by omega))) (by omega) (by omega) (Or.inl (lq_1 pq14 (by omega))) hR.1.symm]; exact ⟨rfl, rfl, hR.2 _⟩))⟩ w (by decide) rfl
                · replace c_15 := (iz_eq (Int.le_trans (by decide) z13_a) (Int.le_trans z13_b (by decide))).mp c_15
                  refine lv_aload_n hx hb dX8_step_137 rfl (lv_at hl 0 rfl) ?_
                  refine r_get (v := .ref a1) M w 0 0 clX8 rfl (by decide) G160 rfl rfl dX8_step_138 ?_
                  refine lv_aload_n hx hb dX8_step_141 rfl (lv_at hl 0 rfl) ?_
                  refine r_get (v := .int (iI z1)) M w 0 3 clX8 rfl (by decide) G166 rfl rfl dX8_step_142 ?_
                  refine r_iald (v := iI (f0 z1)) M w 1 rfl (iI_in (by omega) (by omega) (by decide)) (cI_at (by omega) (by omega)) dX8_step_145 ?_
                  have hh22 : 0 ≤ (f0 z1) ∧ (f0 z1) ≤ 255 := f0_h z1
                  refine k_I (ce := 0) (sl := 0) (rest := []) (wr := [(a0, .inr (8, [.ref a1, .int (iI x0), .int (iI x1), .int (iI z1), .int (iI z1), .int (iI x4), .null, .long y0, .int r0, .int (iI x5), .int (iI x6), .int (iI x7)])), (a1, .inl (T 0, 940, .inl (cI f0)))]) (r_S (f := 0) [] M w V_HookedCity_Tape_62 G594 (c255_X8_isDigit l D T _ (f0 z1) (by omega) (by omega)) rfl (by decide) rfl hl.1 rfl (Nat.le_of_ble_eq_true rfl) dX8_step_146 (by decide) (by decide) (by decide) (by decide)) w [] [0, 1] rfl rfl (by decide) (by decide) rfl rfl (fun v z23 H locs hp w => ?_)
                  have hv : iI z23 = v := hp.1
                  subst hv
                  have z23_a : 0 ≤ z23 := hp.2.1
                  have z23_b : z23 ≤ 1 := hp.2.2.1
                  have pq24 : lq z23 (f0 z1) 48 57 := hp.2.2.2
                  have w : WD D A s.heap [(a0, .inr (8, [.ref a1, .int (iI x0), .int (iI x1), .int (iI z1), .int (iI z1), .int (iI x4), .null, .long y0, .int r0, .int (iI x5), .int (iI x6), .int (iI x7)])), (a1, .inl (T 0, 940, .inl (cI f0)))] H locs := w
                  refine lv_if_eq (tgt := 159) hx hb dX8_step_149 (by decide) (fun c_25 => ?_) (fun c_25 => ?_)
                  · replace c_25 := (iz_eq (Int.le_trans (by decide) z23_a) (Int.le_trans z23_b (by decide))).mp c_25
                    refine lv_aload_n hx hb dX8_step_159 rfl (lv_at hl 0 rfl) ?_
                    refine lv_aload_n hx hb dX8_step_160 rfl (lv_at hl 0 rfl) ?_
                    refine r_get (v := .ref a1) M w 0 0 clX8 rfl (by decide) G160 rfl rfl dX8_step_161 ?_
                    refine lv_aload_n hx hb dX8_step_164 rfl (lv_at hl 0 rfl) ?_
                    refine r_get (v := .int (iI z1)) M w 0 3 clX8 rfl (by decide) G166 rfl rfl dX8_step_165 ?_
                    refine r_iald (v := iI (f0 z1)) M w 1 rfl (iI_in (by omega) (by omega) (by decide)) (cI_at (by omega) (by omega)) dX8_step_168 ?_
                    have hh26 : 0 ≤ (f0 z1) ∧ (f0 z1) ≤ 255 := f0_h z1
                    refine r_put (ws' := [(a0, .inr (8, [.ref a1, .int (iI x0), .int (iI x1), .int (iI z1), .int (iI z1), .int (iI x4), .null, .long y0, .int r0, .int (iI (f0 z1)), .int (iI x6), .int (iI x7)])), (a1, .inl (T 0, 940, .inl (cI f0)))]) M w 0 9 clX8 rfl (by decide) G177 rfl rfl rfl rfl (Nat.le_of_ble_eq_true rfl) rfl dX8_step_169 (fun H locs w => ?_)
                    refine lv_aload_n hx hb dX8_step_172 rfl (lv_at hl 0 rfl) ?_
                    refine r_ldcS M 0 rfl dX8_step_173 ?_
                    refine lv_aload_n hx hb dX8_step_175 rfl (lv_at hl 0 rfl) ?_
                    refine r_get (v := .int (iI (f0 z1))) M w 0 9 clX8 rfl (by decide) G177 rfl rfl dX8_step_176 ?_
                    refine lv_i2c (v := iI (f0 z1)) hx hb dX8_step_179 (i2c_x (by omega) (by omega)) ?_
                    refine k_I (ce := 0) (sl := 0) (rest := [.ref a0]) (wr := [(a0, .inr (8, [.ref a1, .int (iI x0), .int (iI x1), .int (iI z1), .int (iI z1), .int (iI x4), .null, .long y0, .int r0, .int (iI (f0 z1)), .int (iI x6), .int (iI x7)])), (a1, .inl (T 0, 940, .inl (cI f0)))]) (r_VT (f := 3) [] M w V_HookedCity_Tape_70 G610 G611 (c265_J0_indexOf_0f7a4 l D T _ (f0 z1) (by omega) (by omega)) (M.2.2.2.2.2.2.1.2 0 _ rfl).1 rfl (by decide) rfl hl.1 rfl (Nat.le_of_ble_eq_true rfl) dX8_step_180 (by decide) (by decide) (by decide) (by decide)) w [] [0, 1] rfl rfl (by decide) (by decide) rfl rfl (fun v z27 H locs hp w => ?_)
                    have hv : iI z27 = v := hp.1
                    subst hv
                    have z27_a : (-2147483648) ≤ z27 := hp.2.1
                    have z27_b : z27 ≤ 2147483647 := hp.2.2.1
                    have pq28 : ioQ z27 (f0 z1) := hp.2.2.2
                    have w : WD D A s.heap [(a0, .inr (8, [.ref a1, .int (iI x0), .int (iI x1), .int (iI z1), .int (iI z1), .int (iI x4), .null, .long y0, .int r0, .int (iI (f0 z1)), .int (iI x6), .int (iI x7)])), (a1, .inl (T 0, 940, .inl (cI f0)))] H locs := w
                    refine lv_if_lt (tgt := 190) hx hb dX8_step_183 (by decide) (fun c_29 => ?_) (fun c_29 => ?_)
                    · replace c_29 := (iz_lt (Int.le_trans (by decide) z27_a) (Int.le_trans z27_b (by decide))).mp c_29
                      refine lv_iconst (v := iI 1) hx hb dX8_step_190 (by decide +kernel) ?_
                      refine r_put (ws' := [(a0, .inr (8, [.ref a1, .int (iI x0), .int (iI x1), .int (iI z1), .int (iI z1), .int (iI 1), .null, .long y0, .int r0, .int (iI (f0 z1)), .int (iI x6), .int (iI x7)])), (a1, .inl (T 0, 940, .inl (cI f0)))]) M w 0 5 clX8 rfl (by decide) G168 rfl rfl rfl rfl (Nat.le_of_ble_eq_true rfl) rfl dX8_step_191 (fun H locs w => ?_)
                      refine lv_aload_n hx hb dX8_step_194 rfl (lv_at hl 0 rfl) ?_
                      refine lv_dup hx hb dX8_step_195 rfl ?_
                      refine r_get (v := .int (iI z1)) M w 0 3 clX8 rfl (by decide) G166 rfl rfl dX8_step_196 ?_
                      refine lv_iconst (v := iI 1) hx hb dX8_step_199 (by decide +kernel) ?_
                      refine r_iadd (v := iI (z1 + 1)) M (iI_add _ _) dX8_step_200 ?_
                      refine r_put (ws' := [(a0, .inr (8, [.ref a1, .int (iI x0), .int (iI x1), .int (iI (z1 + 1)), .int (iI z1), .int (iI 1), .null, .long y0, .int r0, .int (iI (f0 z1)), .int (iI x6), .int (iI x7)])), (a1, .inl (T 0, 940, .inl (cI f0)))]) M w 0 3 clX8 rfl (by decide) G166 rfl rfl rfl rfl (Nat.le_of_ble_eq_true rfl) rfl dX8_step_201 (fun H locs w => ?_)
                      exact ret ((z1 + 1), z1, 1, none, y0, r0, (f0 z1)) _ _ _ _ _ [0, 1] dX8_step_204 ⟨(show 0 ≤ (z1 + 1) from by omega), (show (z1 + 1) ≤ 940 from by omega), z1_a, z1_b, (show (0 : Int) ≤ 1 from by decide), (show (1 : Int) ≤ 5 from by decide), wok_n, (show (-2147483648) ≤ (f0 z1) from by omega), (show (f0 z1) ≤ 2147483647 from by omega), (show gC T (tkAt f0 x0 x1 x2) 1 z1 (z1 + 1) y0 r0 (f0 z1) none from (by rw [tk_no (lq1_s.trans (sk_e (by omega))) (by omega) (by omega) (nld pq14 (by omega) pq24 (by omega)) (io_0 pq28 (by omega))]; exact ⟨rfl, rfl, rfl, rfl⟩))⟩ w (by decide) rfl
                    · replace c_29 : 0 ≤ z27 := Int.not_lt.mp (fun h => c_29 ((iz_lt (Int.le_trans (by decide) z27_a) (Int.le_trans z27_b (by decide))).mpr h))
                      refine lv_iconst (v := iI 5) hx hb dX8_step_186 (by decide +kernel) ?_
                      refine lv_goto (tgt := 191) hx hb dX8_step_187 (by decide) ?_
                      refine r_put (ws' := [(a0, .inr (8, [.ref a1, .int (iI x0), .int (iI x1), .int (iI z1), .int (iI z1), .int (iI 5), .null, .long y0, .int r0, .int (iI (f0 z1)), .int (iI x6), .int (iI x7)])), (a1, .inl (T 0, 940, .inl (cI f0)))]) M w 0 5 clX8 rfl (by decide) G168 rfl rfl rfl rfl (Nat.le_of_ble_eq_true rfl) rfl dX8_step_191 (fun H locs w => ?_)
                      refine lv_aload_n hx hb dX8_step_194 rfl (lv_at hl 0 rfl) ?_
                      refine lv_dup hx hb dX8_step_195 rfl ?_
                      refine r_get (v := .int (iI z1)) M w 0 3 clX8 rfl (by decide) G166 rfl rfl dX8_step_196 ?_
                      refine lv_iconst (v := iI 1) hx hb dX8_step_199 (by decide +kernel) ?_
                      refine r_iadd (v := iI (z1 + 1)) M (iI_add _ _) dX8_step_200 ?_
                      refine r_put (ws' := [(a0, .inr (8, [.ref a1, .int (iI x0), .int (iI x1), .int (iI (z1 + 1)), .int (iI z1), .int (iI 5), .null, .long y0, .int r0, .int (iI (f0 z1)), .int (iI x6), .int (iI x7)])), (a1, .inl (T 0, 940, .inl (cI f0)))]) M w 0 3 clX8 rfl (by decide) G166 rfl rfl rfl rfl (Nat.le_of_ble_eq_true rfl) rfl dX8_step_201 (fun H locs w => ?_)
                      exact ret ((z1 + 1), z1, 5, none, y0, r0, (f0 z1)) _ _ _ _ _ [0, 1] dX8_step_204 ⟨(show 0 ≤ (z1 + 1) from by omega), (show (z1 + 1) ≤ 940 from by omega), z1_a, z1_b, (show (0 : Int) ≤ 5 from by decide), (show (5 : Int) ≤ 5 from by decide), wok_n, (show (-2147483648) ≤ (f0 z1) from by omega), (show (f0 z1) ≤ 2147483647 from by omega), (show gC T (tkAt f0 x0 x1 x2) 5 z1 (z1 + 1) y0 r0 (f0 z1) none from (by rw [tk_sg (lq1_s.trans (sk_e (by omega))) (by omega) (by omega) (nld pq14 (by omega) pq24 (by omega)) (io_1 pq28 (by omega))]; exact ⟨rfl, rfl, rfl, rfl, rfl⟩))⟩ w (by decide) rfl
                  · replace c_25 : ¬ z23 = 0 := fun h => c_25 ((iz_eq (Int.le_trans (by decide) z23_a) (Int.le_trans z23_b (by decide))).mpr h)
                    refine lv_aload_n hx hb dX8_step_152 rfl (lv_at hl 0 rfl) ?_
                    refine k_V (ce := 0) (sl := 0) (rest := []) (wr := []) (r_V (f := 1) [0, 1] M w V_HookedCity_Tape_65 G598 G2 (c257_X8_readRun l D T _ a0 a1 x0 x1 z1 z1 x4 none y0 r0 x5 x6 x7 f0 x0_a x0_b x1_a x1_b z1_a z1_b z1_a z1_b x4_a x4_b wok_n x5_a x5_b x6_a x6_b x7_a x7_b f0_h) 0 clX8 rfl rfl (by decide) rfl hl.1 rfl (Nat.le_of_ble_eq_true rfl) dX8_step_153 (by decide) (by decide) (by decide) (by decide)) w [0, 1] [] rfl rfl (by decide) (by decide) rfl rfl (fun u H locs hp w => ?_)
                    obtain ⟨z30, z31, fo32, fy33, fr34⟩ := u
                    have z30_a : 0 ≤ z30 := hp.1
                    have z30_b : z30 ≤ 940 := hp.2.1
                    have z31_a : 0 ≤ z31 := hp.2.2.1
                    have z31_b : z31 ≤ 5 := hp.2.2.2.1
                    have fo32_h : wok T fo32 := hp.2.2.2.2.1
                    have pq35 : none = none → cR T f0 x0 z1 z31 z30 fy33 fr34 fo32 := hp.2.2.2.2.2
                    have w : WD D A s.heap [(a0, .inr (8, [.ref a1, .int (iI x0), .int (iI x1), .int (iI z30), .int (iI z1), .int (iI z31), (va_rf fo32), .long fy33, .int fr34, .int (iI x5), .int (iI x6), .int (iI x7)])), (a1, .inl (T 0, 940, .inl (cI f0)))] H locs := w
                    refine lv_goto (tgt := 204) hx hb dX8_step_156 (by decide) ?_
                    exact ret (z30, z1, z31, fo32, fy33, fr34, x5) _ _ _ _ _ [0, 1] dX8_step_204 ⟨z30_a, z30_b, z1_a, z1_b, z31_a, z31_b, fo32_h, x5_a, x5_b, (show gC T (tkAt f0 x0 x1 x2) z31 z1 z30 fy33 fr34 x5 fo32 from (by have hR := pq35 rfl; rw [tk_run (lq1_s.trans (sk_e (by omega))) (by omega) (by omega) (Or.inr (lq_1 pq24 (by omega))) hR.1.symm]; exact ⟨rfl, rfl, hR.2 _⟩))⟩ w (by decide) rfl
              · replace c_11 : x0 ≤ z1 := Int.not_lt.mp (fun h => c_11 ((iI_lt (Int.le_trans (by decide) z1_a) (Int.le_trans z1_b (by decide)) (Int.le_trans (by decide) x0_a) (Int.le_trans x0_b (by decide))).mpr h))
                exfalso; omega
            · replace c_10 : x1 < x0 := Int.not_le.mp (fun h => c_10 ((iI_le (Int.le_trans (by decide) x0_a) (Int.le_trans x0_b (by decide)) (Int.le_trans (by decide) x1_a) (Int.le_trans x1_b (by decide))).mpr h))
              refine lv_aload_n hx hb dX8_step_76 rfl (lv_at hl 0 rfl) ?_
              refine r_get (v := .int (iI z1)) M w 0 3 clX8 rfl (by decide) G166 rfl rfl dX8_step_77 ?_
              refine lv_aload_n hx hb dX8_step_80 rfl (lv_at hl 0 rfl) ?_
              refine r_get (v := .int (iI x1)) M w 0 2 clX8 rfl (by decide) G165 rfl rfl dX8_step_81 ?_
              refine lv_icmp_lt (tgt := 103) hx hb dX8_step_84 (by decide) (fun c_36 => ?_) (fun c_36 => ?_)
              · replace c_36 := (iI_lt (Int.le_trans (by decide) z1_a) (Int.le_trans z1_b (by decide)) (Int.le_trans (by decide) x1_a) (Int.le_trans x1_b (by decide))).mp c_36
                refine lv_aload_n hx hb dX8_step_103 rfl (lv_at hl 0 rfl) ?_
                refine r_get (v := .int (iI z1)) M w 0 3 clX8 rfl (by decide) G166 rfl rfl dX8_step_104 ?_
                refine lv_aload_n hx hb dX8_step_107 rfl (lv_at hl 0 rfl) ?_
                refine r_get (v := .int (iI x0)) M w 0 1 clX8 rfl (by decide) G162 rfl rfl dX8_step_108 ?_
                refine lv_icmp_lt (tgt := 122) hx hb dX8_step_111 (by decide) (fun c_37 => ?_) (fun c_37 => ?_)
                · replace c_37 := (iI_lt (Int.le_trans (by decide) z1_a) (Int.le_trans z1_b (by decide)) (Int.le_trans (by decide) x0_a) (Int.le_trans x0_b (by decide))).mp c_37
                  refine lv_aload_n hx hb dX8_step_122 rfl (lv_at hl 0 rfl) ?_
                  refine r_get (v := .ref a1) M w 0 0 clX8 rfl (by decide) G160 rfl rfl dX8_step_123 ?_
                  refine lv_aload_n hx hb dX8_step_126 rfl (lv_at hl 0 rfl) ?_
                  refine r_get (v := .int (iI z1)) M w 0 3 clX8 rfl (by decide) G166 rfl rfl dX8_step_127 ?_
                  refine r_iald (v := iI (f0 z1)) M w 1 rfl (iI_in (by omega) (by omega) (by decide)) (cI_at (by omega) (by omega)) dX8_step_130 ?_
                  have hh38 : 0 ≤ (f0 z1) ∧ (f0 z1) ≤ 255 := f0_h z1
                  refine k_I (ce := 0) (sl := 0) (rest := []) (wr := [(a0, .inr (8, [.ref a1, .int (iI x0), .int (iI x1), .int (iI z1), .int (iI z1), .int (iI x4), .null, .long y0, .int r0, .int (iI x5), .int (iI x6), .int (iI x7)])), (a1, .inl (T 0, 940, .inl (cI f0)))]) (r_S (f := 0) [] M w V_HookedCity_Tape_58 G591 (c253_X8_isLetter l D T _ (f0 z1) (by omega) (by omega)) rfl (by decide) rfl hl.1 rfl (Nat.le_of_ble_eq_true rfl) dX8_step_131 (by decide) (by decide) (by decide) (by decide)) w [] [0, 1] rfl rfl (by decide) (by decide) rfl rfl (fun v z39 H locs hp w => ?_)
                  have hv : iI z39 = v := hp.1
                  subst hv
                  have z39_a : 0 ≤ z39 := hp.2.1
                  have z39_b : z39 ≤ 1 := hp.2.2.1
                  have pq40 : lq z39 (f0 z1) 97 122 := hp.2.2.2
                  have w : WD D A s.heap [(a0, .inr (8, [.ref a1, .int (iI x0), .int (iI x1), .int (iI z1), .int (iI z1), .int (iI x4), .null, .long y0, .int r0, .int (iI x5), .int (iI x6), .int (iI x7)])), (a1, .inl (T 0, 940, .inl (cI f0)))] H locs := w
                  refine lv_if_ne (tgt := 152) hx hb dX8_step_134 (by decide) (fun c_41 => ?_) (fun c_41 => ?_)
                  · replace c_41 : ¬ z39 = 0 := fun h => c_41 ((iz_eq (Int.le_trans (by decide) z39_a) (Int.le_trans z39_b (by decide))).mpr h)
                    refine lv_aload_n hx hb dX8_step_152 rfl (lv_at hl 0 rfl) ?_
                    refine k_V (ce := 0) (sl := 0) (rest := []) (wr := []) (r_V (f := 1) [0, 1] M w V_HookedCity_Tape_65 G598 G2 (c257_X8_readRun l D T _ a0 a1 x0 x1 z1 z1 x4 none y0 r0 x5 x6 x7 f0 x0_a x0_b x1_a x1_b z1_a z1_b z1_a z1_b x4_a x4_b wok_n x5_a x5_b x6_a x6_b x7_a x7_b f0_h) 0 clX8 rfl rfl (by decide) rfl hl.1 rfl (Nat.le_of_ble_eq_true rfl) dX8_step_153 (by decide) (by decide) (by decide) (by decide)) w [0, 1] [] rfl rfl (by decide) (by decide) rfl rfl (fun u H locs hp w => ?_)
                    obtain ⟨z42, z43, fo44, fy45, fr46⟩ := u
                    have z42_a : 0 ≤ z42 := hp.1
                    have z42_b : z42 ≤ 940 := hp.2.1
                    have z43_a : 0 ≤ z43 := hp.2.2.1
                    have z43_b : z43 ≤ 5 := hp.2.2.2.1
                    have fo44_h : wok T fo44 := hp.2.2.2.2.1
                    have pq47 : none = none → cR T f0 x0 z1 z43 z42 fy45 fr46 fo44 := hp.2.2.2.2.2
                    have w : WD D A s.heap [(a0, .inr (8, [.ref a1, .int (iI x0), .int (iI x1), .int (iI z42), .int (iI z1), .int (iI z43), (va_rf fo44), .long fy45, .int fr46, .int (iI x5), .int (iI x6), .int (iI x7)])), (a1, .inl (T 0, 940, .inl (cI f0)))] H locs := w
                    refine lv_goto (tgt := 204) hx hb dX8_step_156 (by decide) ?_
                    exact ret (z42, z1, z43, fo44, fy45, fr46, x5) _ _ _ _ _ [0, 1] dX8_step_204 ⟨z42_a, z42_b, z1_a, z1_b, z43_a, z43_b, fo44_h, x5_a, x5_b, (show gC T (tkAt f0 x0 x1 x2) z43 z1 z42 fy45 fr46 x5 fo44 from (by have hR := pq47 rfl; rw [tk_run (lq1_s.trans (sk_e (by omega))) (by omega) (by omega) (Or.inl (lq_1 pq40 (by omega))) hR.1.symm]; exact ⟨rfl, rfl, hR.2 _⟩))⟩ w (by decide) rfl
                  · replace c_41 := (iz_eq (Int.le_trans (by decide) z39_a) (Int.le_trans z39_b (by decide))).mp c_41
                    refine lv_aload_n hx hb dX8_step_137 rfl (lv_at hl 0 rfl) ?_
                    refine r_get (v := .ref a1) M w 0 0 clX8 rfl (by decide) G160 rfl rfl dX8_step_138 ?_
                    refine lv_aload_n hx hb dX8_step_141 rfl (lv_at hl 0 rfl) ?_
                    refine r_get (v := .int (iI z1)) M w 0 3 clX8 rfl (by decide) G166 rfl rfl dX8_step_142 ?_
                    refine r_iald (v := iI (f0 z1)) M w 1 rfl (iI_in (by omega) (by omega) (by decide)) (cI_at (by omega) (by omega)) dX8_step_145 ?_
                    have hh48 : 0 ≤ (f0 z1) ∧ (f0 z1) ≤ 255 := f0_h z1
                    refine k_I (ce := 0) (sl := 0) (rest := []) (wr := [(a0, .inr (8, [.ref a1, .int (iI x0), .int (iI x1), .int (iI z1), .int (iI z1), .int (iI x4), .null, .long y0, .int r0, .int (iI x5), .int (iI x6), .int (iI x7)])), (a1, .inl (T 0, 940, .inl (cI f0)))]) (r_S (f := 0) [] M w V_HookedCity_Tape_62 G594 (c255_X8_isDigit l D T _ (f0 z1) (by omega) (by omega)) rfl (by decide) rfl hl.1 rfl (Nat.le_of_ble_eq_true rfl) dX8_step_146 (by decide) (by decide) (by decide) (by decide)) w [] [0, 1] rfl rfl (by decide) (by decide) rfl rfl (fun v z49 H locs hp w => ?_)
                    have hv : iI z49 = v := hp.1
                    subst hv
                    have z49_a : 0 ≤ z49 := hp.2.1
                    have z49_b : z49 ≤ 1 := hp.2.2.1
                    have pq50 : lq z49 (f0 z1) 48 57 := hp.2.2.2
                    have w : WD D A s.heap [(a0, .inr (8, [.ref a1, .int (iI x0), .int (iI x1), .int (iI z1), .int (iI z1), .int (iI x4), .null, .long y0, .int r0, .int (iI x5), .int (iI x6), .int (iI x7)])), (a1, .inl (T 0, 940, .inl (cI f0)))] H locs := w
                    refine lv_if_eq (tgt := 159) hx hb dX8_step_149 (by decide) (fun c_51 => ?_) (fun c_51 => ?_)
                    · replace c_51 := (iz_eq (Int.le_trans (by decide) z49_a) (Int.le_trans z49_b (by decide))).mp c_51
                      refine lv_aload_n hx hb dX8_step_159 rfl (lv_at hl 0 rfl) ?_
                      refine lv_aload_n hx hb dX8_step_160 rfl (lv_at hl 0 rfl) ?_
                      refine r_get (v := .ref a1) M w 0 0 clX8 rfl (by decide) G160 rfl rfl dX8_step_161 ?_
                      refine lv_aload_n hx hb dX8_step_164 rfl (lv_at hl 0 rfl) ?_
                      refine r_get (v := .int (iI z1)) M w 0 3 clX8 rfl (by decide) G166 rfl rfl dX8_step_165 ?_
                      refine r_iald (v := iI (f0 z1)) M w 1 rfl (iI_in (by omega) (by omega) (by decide)) (cI_at (by omega) (by omega)) dX8_step_168 ?_
                      have hh52 : 0 ≤ (f0 z1) ∧ (f0 z1) ≤ 255 := f0_h z1
                      refine r_put (ws' := [(a0, .inr (8, [.ref a1, .int (iI x0), .int (iI x1), .int (iI z1), .int (iI z1), .int (iI x4), .null, .long y0, .int r0, .int (iI (f0 z1)), .int (iI x6), .int (iI x7)])), (a1, .inl (T 0, 940, .inl (cI f0)))]) M w 0 9 clX8 rfl (by decide) G177 rfl rfl rfl rfl (Nat.le_of_ble_eq_true rfl) rfl dX8_step_169 (fun H locs w => ?_)
                      refine lv_aload_n hx hb dX8_step_172 rfl (lv_at hl 0 rfl) ?_
                      refine r_ldcS M 0 rfl dX8_step_173 ?_
                      refine lv_aload_n hx hb dX8_step_175 rfl (lv_at hl 0 rfl) ?_
                      refine r_get (v := .int (iI (f0 z1))) M w 0 9 clX8 rfl (by decide) G177 rfl rfl dX8_step_176 ?_
                      refine lv_i2c (v := iI (f0 z1)) hx hb dX8_step_179 (i2c_x (by omega) (by omega)) ?_
                      refine k_I (ce := 0) (sl := 0) (rest := [.ref a0]) (wr := [(a0, .inr (8, [.ref a1, .int (iI x0), .int (iI x1), .int (iI z1), .int (iI z1), .int (iI x4), .null, .long y0, .int r0, .int (iI (f0 z1)), .int (iI x6), .int (iI x7)])), (a1, .inl (T 0, 940, .inl (cI f0)))]) (r_VT (f := 3) [] M w V_HookedCity_Tape_70 G610 G611 (c265_J0_indexOf_0f7a4 l D T _ (f0 z1) (by omega) (by omega)) (M.2.2.2.2.2.2.1.2 0 _ rfl).1 rfl (by decide) rfl hl.1 rfl (Nat.le_of_ble_eq_true rfl) dX8_step_180 (by decide) (by decide) (by decide) (by decide)) w [] [0, 1] rfl rfl (by decide) (by decide) rfl rfl (fun v z53 H locs hp w => ?_)
                      have hv : iI z53 = v := hp.1
                      subst hv
                      have z53_a : (-2147483648) ≤ z53 := hp.2.1
                      have z53_b : z53 ≤ 2147483647 := hp.2.2.1
                      have pq54 : ioQ z53 (f0 z1) := hp.2.2.2
                      have w : WD D A s.heap [(a0, .inr (8, [.ref a1, .int (iI x0), .int (iI x1), .int (iI z1), .int (iI z1), .int (iI x4), .null, .long y0, .int r0, .int (iI (f0 z1)), .int (iI x6), .int (iI x7)])), (a1, .inl (T 0, 940, .inl (cI f0)))] H locs := w
                      refine lv_if_lt (tgt := 190) hx hb dX8_step_183 (by decide) (fun c_55 => ?_) (fun c_55 => ?_)
                      · replace c_55 := (iz_lt (Int.le_trans (by decide) z53_a) (Int.le_trans z53_b (by decide))).mp c_55
                        refine lv_iconst (v := iI 1) hx hb dX8_step_190 (by decide +kernel) ?_
                        refine r_put (ws' := [(a0, .inr (8, [.ref a1, .int (iI x0), .int (iI x1), .int (iI z1), .int (iI z1), .int (iI 1), .null, .long y0, .int r0, .int (iI (f0 z1)), .int (iI x6), .int (iI x7)])), (a1, .inl (T 0, 940, .inl (cI f0)))]) M w 0 5 clX8 rfl (by decide) G168 rfl rfl rfl rfl (Nat.le_of_ble_eq_true rfl) rfl dX8_step_191 (fun H locs w => ?_)
                        refine lv_aload_n hx hb dX8_step_194 rfl (lv_at hl 0 rfl) ?_
                        refine lv_dup hx hb dX8_step_195 rfl ?_
                        refine r_get (v := .int (iI z1)) M w 0 3 clX8 rfl (by decide) G166 rfl rfl dX8_step_196 ?_
                        refine lv_iconst (v := iI 1) hx hb dX8_step_199 (by decide +kernel) ?_
                        refine r_iadd (v := iI (z1 + 1)) M (iI_add _ _) dX8_step_200 ?_
                        refine r_put (ws' := [(a0, .inr (8, [.ref a1, .int (iI x0), .int (iI x1), .int (iI (z1 + 1)), .int (iI z1), .int (iI 1), .null, .long y0, .int r0, .int (iI (f0 z1)), .int (iI x6), .int (iI x7)])), (a1, .inl (T 0, 940, .inl (cI f0)))]) M w 0 3 clX8 rfl (by decide) G166 rfl rfl rfl rfl (Nat.le_of_ble_eq_true rfl) rfl dX8_step_201 (fun H locs w => ?_)
                        exact ret ((z1 + 1), z1, 1, none, y0, r0, (f0 z1)) _ _ _ _ _ [0, 1] dX8_step_204 ⟨(show 0 ≤ (z1 + 1) from by omega), (show (z1 + 1) ≤ 940 from by omega), z1_a, z1_b, (show (0 : Int) ≤ 1 from by decide), (show (1 : Int) ≤ 5 from by decide), wok_n, (show (-2147483648) ≤ (f0 z1) from by omega), (show (f0 z1) ≤ 2147483647 from by omega), (show gC T (tkAt f0 x0 x1 x2) 1 z1 (z1 + 1) y0 r0 (f0 z1) none from (by rw [tk_no (lq1_s.trans (sk_e (by omega))) (by omega) (by omega) (nld pq40 (by omega) pq50 (by omega)) (io_0 pq54 (by omega))]; exact ⟨rfl, rfl, rfl, rfl⟩))⟩ w (by decide) rfl
                      · replace c_55 : 0 ≤ z53 := Int.not_lt.mp (fun h => c_55 ((iz_lt (Int.le_trans (by decide) z53_a) (Int.le_trans z53_b (by decide))).mpr h))
                        refine lv_iconst (v := iI 5) hx hb dX8_step_186 (by decide +kernel) ?_
                        refine lv_goto (tgt := 191) hx hb dX8_step_187 (by decide) ?_
                        refine r_put (ws' := [(a0, .inr (8, [.ref a1, .int (iI x0), .int (iI x1), .int (iI z1), .int (iI z1), .int (iI 5), .null, .long y0, .int r0, .int (iI (f0 z1)), .int (iI x6), .int (iI x7)])), (a1, .inl (T 0, 940, .inl (cI f0)))]) M w 0 5 clX8 rfl (by decide) G168 rfl rfl rfl rfl (Nat.le_of_ble_eq_true rfl) rfl dX8_step_191 (fun H locs w => ?_)
                        refine lv_aload_n hx hb dX8_step_194 rfl (lv_at hl 0 rfl) ?_
                        refine lv_dup hx hb dX8_step_195 rfl ?_
                        refine r_get (v := .int (iI z1)) M w 0 3 clX8 rfl (by decide) G166 rfl rfl dX8_step_196 ?_
                        refine lv_iconst (v := iI 1) hx hb dX8_step_199 (by decide +kernel) ?_
                        refine r_iadd (v := iI (z1 + 1)) M (iI_add _ _) dX8_step_200 ?_
                        refine r_put (ws' := [(a0, .inr (8, [.ref a1, .int (iI x0), .int (iI x1), .int (iI (z1 + 1)), .int (iI z1), .int (iI 5), .null, .long y0, .int r0, .int (iI (f0 z1)), .int (iI x6), .int (iI x7)])), (a1, .inl (T 0, 940, .inl (cI f0)))]) M w 0 3 clX8 rfl (by decide) G166 rfl rfl rfl rfl (Nat.le_of_ble_eq_true rfl) rfl dX8_step_201 (fun H locs w => ?_)
                        exact ret ((z1 + 1), z1, 5, none, y0, r0, (f0 z1)) _ _ _ _ _ [0, 1] dX8_step_204 ⟨(show 0 ≤ (z1 + 1) from by omega), (show (z1 + 1) ≤ 940 from by omega), z1_a, z1_b, (show (0 : Int) ≤ 5 from by decide), (show (5 : Int) ≤ 5 from by decide), wok_n, (show (-2147483648) ≤ (f0 z1) from by omega), (show (f0 z1) ≤ 2147483647 from by omega), (show gC T (tkAt f0 x0 x1 x2) 5 z1 (z1 + 1) y0 r0 (f0 z1) none from (by rw [tk_sg (lq1_s.trans (sk_e (by omega))) (by omega) (by omega) (nld pq40 (by omega) pq50 (by omega)) (io_1 pq54 (by omega))]; exact ⟨rfl, rfl, rfl, rfl, rfl⟩))⟩ w (by decide) rfl
                    · replace c_51 : ¬ z49 = 0 := fun h => c_51 ((iz_eq (Int.le_trans (by decide) z49_a) (Int.le_trans z49_b (by decide))).mpr h)
                      refine lv_aload_n hx hb dX8_step_152 rfl (lv_at hl 0 rfl) ?_
                      refine k_V (ce := 0) (sl := 0) (rest := []) (wr := []) (r_V (f := 1) [0, 1] M w V_HookedCity_Tape_65 G598 G2 (c257_X8_readRun l D T _ a0 a1 x0 x1 z1 z1 x4 none y0 r0 x5 x6 x7 f0 x0_a x0_b x1_a x1_b z1_a z1_b z1_a z1_b x4_a x4_b wok_n x5_a x5_b x6_a x6_b x7_a x7_b f0_h) 0 clX8 rfl rfl (by decide) rfl hl.1 rfl (Nat.le_of_ble_eq_true rfl) dX8_step_153 (by decide) (by decide) (by decide) (by decide)) w [0, 1] [] rfl rfl (by decide) (by decide) rfl rfl (fun u H locs hp w => ?_)
                      obtain ⟨z56, z57, fo58, fy59, fr60⟩ := u
                      have z56_a : 0 ≤ z56 := hp.1
                      have z56_b : z56 ≤ 940 := hp.2.1
                      have z57_a : 0 ≤ z57 := hp.2.2.1
                      have z57_b : z57 ≤ 5 := hp.2.2.2.1
                      have fo58_h : wok T fo58 := hp.2.2.2.2.1
                      have pq61 : none = none → cR T f0 x0 z1 z57 z56 fy59 fr60 fo58 := hp.2.2.2.2.2
                      have w : WD D A s.heap [(a0, .inr (8, [.ref a1, .int (iI x0), .int (iI x1), .int (iI z56), .int (iI z1), .int (iI z57), (va_rf fo58), .long fy59, .int fr60, .int (iI x5), .int (iI x6), .int (iI x7)])), (a1, .inl (T 0, 940, .inl (cI f0)))] H locs := w
                      refine lv_goto (tgt := 204) hx hb dX8_step_156 (by decide) ?_
                      exact ret (z56, z1, z57, fo58, fy59, fr60, x5) _ _ _ _ _ [0, 1] dX8_step_204 ⟨z56_a, z56_b, z1_a, z1_b, z57_a, z57_b, fo58_h, x5_a, x5_b, (show gC T (tkAt f0 x0 x1 x2) z57 z1 z56 fy59 fr60 x5 fo58 from (by have hR := pq61 rfl; rw [tk_run (lq1_s.trans (sk_e (by omega))) (by omega) (by omega) (Or.inr (lq_1 pq50 (by omega))) hR.1.symm]; exact ⟨rfl, rfl, hR.2 _⟩))⟩ w (by decide) rfl
                · replace c_37 : x0 ≤ z1 := Int.not_lt.mp (fun h => c_37 ((iI_lt (Int.le_trans (by decide) z1_a) (Int.le_trans z1_b (by decide)) (Int.le_trans (by decide) x0_a) (Int.le_trans x0_b (by decide))).mpr h))
                  exfalso; omega
              · replace c_36 : x1 ≤ z1 := Int.not_lt.mp (fun h => c_36 ((iI_lt (Int.le_trans (by decide) z1_a) (Int.le_trans z1_b (by decide)) (Int.le_trans (by decide) x1_a) (Int.le_trans x1_b (by decide))).mpr h))
                refine lv_aload_n hx hb dX8_step_87 rfl (lv_at hl 0 rfl) ?_
                refine lv_aload_n hx hb dX8_step_88 rfl (lv_at hl 0 rfl) ?_
                refine r_get (v := .int (iI x1)) M w 0 2 clX8 rfl (by decide) G165 rfl rfl dX8_step_89 ?_
                refine r_put (ws' := [(a0, .inr (8, [.ref a1, .int (iI x0), .int (iI x1), .int (iI z1), .int (iI x1), .int (iI x4), .null, .long y0, .int r0, .int (iI x5), .int (iI x6), .int (iI x7)])), (a1, .inl (T 0, 940, .inl (cI f0)))]) M w 0 4 clX8 rfl (by decide) G167 rfl rfl rfl rfl (Nat.le_of_ble_eq_true rfl) rfl dX8_step_92 (fun H locs w => ?_)
                refine lv_aload_n hx hb dX8_step_95 rfl (lv_at hl 0 rfl) ?_
                refine lv_iconst (v := iI 1) hx hb dX8_step_96 (by decide +kernel) ?_
                refine r_put (ws' := [(a0, .inr (8, [.ref a1, .int (iI x0), .int (iI x1), .int (iI z1), .int (iI x1), .int (iI 1), .null, .long y0, .int r0, .int (iI x5), .int (iI x6), .int (iI x7)])), (a1, .inl (T 0, 940, .inl (cI f0)))]) M w 0 5 clX8 rfl (by decide) G168 rfl rfl rfl rfl (Nat.le_of_ble_eq_true rfl) rfl dX8_step_97 (fun H locs w => ?_)
                refine lv_goto (tgt := 204) hx hb dX8_step_100 (by decide) ?_
                exact ret (z1, x1, 1, none, y0, r0, x5) _ _ _ _ _ [0, 1] dX8_step_204 ⟨z1_a, z1_b, x1_a, x1_b, (show (0 : Int) ≤ 1 from by decide), (show (1 : Int) ≤ 5 from by decide), wok_n, x5_a, x5_b, (show gC T (tkAt f0 x0 x1 x2) 1 x1 z1 y0 r0 x5 none from (by rw [tk_lim (lq1_s.trans (sk_e (by omega))) (by omega) (by omega)]; exact ⟨rfl, rfl, rfl, rfl⟩))⟩ w (by decide) rfl
          · replace c_9 := (iI_eq (by omega) (by omega) (by decide) (by decide)).mp c_9
            refine lv_aload_n hx hb dX8_step_39 rfl (lv_at hl 0 rfl) ?_
            refine lv_dup hx hb dX8_step_40 rfl ?_
            refine r_get (v := .int (iI z1)) M w 0 3 clX8 rfl (by decide) G166 rfl rfl dX8_step_41 ?_
            refine lv_iconst (v := iI 1) hx hb dX8_step_44 (by decide +kernel) ?_
            refine r_iadd (v := iI (z1 + 1)) M (iI_add _ _) dX8_step_45 ?_
            refine r_put (ws' := [(a0, .inr (8, [.ref a1, .int (iI x0), .int (iI x1), .int (iI (z1 + 1)), .int (iI x3), .int (iI x4), (va_rf o0), .long y0, .int r0, .int (iI x5), .int (iI x6), .int (iI x7)])), (a1, .inl (T 0, 940, .inl (cI f0)))]) M w 0 3 clX8 rfl (by decide) G166 rfl rfl rfl rfl (Nat.le_of_ble_eq_true rfl) rfl dX8_step_46 (fun H locs w => ?_)
            refine lv_goto (tgt := 0) hx hb dX8_step_49 (by decide) ?_
            exact ih1 (z1 + 1) _ _ _ (by omega) (by omega) (lq1_s.trans (sk_t (by omega) (by omega))) (by omega) w (lv_sub hl [0] rfl)
  exact loop1 (((x0 - x2) : Int).toNat + 1) x2 _ _ _ x2_a x2_b rfl (Nat.lt_succ_self _) w (lv_sub hl [0] rfl)
set_option maxRecDepth 100000 in
set_option maxHeartbeats 4000000 in
theorem c267_X8_open (l : Launch) (D : va_G) (T : Nat → ClassId) (sz : Nat) (a0 : Nat) (x0 : Int) (a1 : Nat) (x1 : Int) (x2 : Int) (x3 : Int) (x4 : Int) (x5 : Int) (o0 : Option Nat) (y0 : Int64) (r0 : Int32) (x6 : Int) (x7 : Int) (x8 : Int) (f0 : Int → Int) (x0_a : 0 ≤ x0) (x0_b : x0 ≤ 940) (x1_a : 0 ≤ x1) (x1_b : x1 ≤ 940) (x2_a : 0 ≤ x2) (x2_b : x2 ≤ 940) (x3_a : 0 ≤ x3) (x3_b : x3 ≤ 940) (x4_a : 0 ≤ x4) (x4_b : x4 ≤ 940) (x5_a : 0 ≤ x5) (x5_b : x5 ≤ 5) (o0_h : wok T o0) (x6_a : (-2147483648) ≤ x6) (x6_b : x6 ≤ 2147483647) (x7_a : (-2147483648) ≤ x7) (x7_b : x7 ≤ 2147483647) (x8_a : 0 ≤ x8) (x8_b : x8 ≤ 940) (f0_h : rng 0 255 f0) : Met l yX8_open (Cond.code yX8_open cX8_open 2 none :: GW) (Rm 5 0 0) (cPre [.ref a0, .int (iI x0)] D T [(a0, .inr (8, [.ref a1, .int (iI x1), .int (iI x2), .int (iI x3), .int (iI x4), .int (iI x5), (va_rf o0), .long y0, .int r0, .int (iI x6), .int (iI x7), .int (iI x8)])), (a1, .inl (T 0, 940, .inl (cI f0)))] sz) (qV D [(a0, .inr (8, [.ref a1, .int (iI x1), .int (iI x2), .int (iI x3), .int (iI x4), .int (iI x5), (va_rf o0), .long y0, .int r0, .int (iI x6), .int (iI x7), .int (iI x8)])), (a1, .inl (T 0, 940, .inl (cI f0)))] sz (fun (u : Int × Int × Int × Int × Option Nat × Int64 × Int32 × Int × Int × Int) => 0 ≤ u.1 ∧ u.1 ≤ 940 ∧ 0 ≤ u.2.1 ∧ u.2.1 ≤ 940 ∧ 0 ≤ u.2.2.1 ∧ u.2.2.1 ≤ 940 ∧ 0 ≤ u.2.2.2.1 ∧ u.2.2.2.1 ≤ 5 ∧ wok T u.2.2.2.2.1 ∧ (-2147483648) ≤ u.2.2.2.2.2.2.2.1 ∧ u.2.2.2.2.2.2.2.1 ≤ 2147483647 ∧ (-2147483648) ≤ u.2.2.2.2.2.2.2.2.1 ∧ u.2.2.2.2.2.2.2.2.1 ≤ 2147483647 ∧ 0 ≤ u.2.2.2.2.2.2.2.2.2 ∧ u.2.2.2.2.2.2.2.2.2 ≤ 940 ∧ 0 ≤ (u.1 - x0) ∧ 0 ≤ (x0 - u.1) ∧ 0 ≤ u.2.2.2.2.2.2.2.2.1 ∧ 0 ≤ (0 - u.2.2.2.2.2.2.2.2.1) ∧ (gC T (tkAt f0 x1 u.1 0) u.2.2.2.1 u.2.2.1 u.2.1 u.2.2.2.2.2.1 u.2.2.2.2.2.2.1 u.2.2.2.2.2.2.2.1 u.2.2.2.2.1)) (fun u => [(a0, .inr (8, [.ref a1, .int (iI x1), .int (iI u.1), .int (iI u.2.1), .int (iI u.2.2.1), .int (iI u.2.2.2.1), (va_rf u.2.2.2.2.1), .long u.2.2.2.2.2.1, .int u.2.2.2.2.2.2.1, .int (iI u.2.2.2.2.2.2.2.1), .int (iI u.2.2.2.2.2.2.2.2.1), .int (iI u.2.2.2.2.2.2.2.2.2)])), (a1, .inl (T 0, 940, .inl (cI f0)))])) 0 0 (va_A [(a0, .inr (8, [.ref a1, .int (iI x1), .int (iI x2), .int (iI x3), .int (iI x4), .int (iI x5), (va_rf o0), .long y0, .int r0, .int (iI x6), .int (iI x7), .int (iI x8)])), (a1, .inl (T 0, 940, .inl (cI f0)))] sz) := by
  refine e_V (by decide) (Nat.le_of_ble_eq_true rfl) ?_
  intro p e s m args below meth c A Q ls M hin w ret hl
  have hx := M.1.1
  have hb := M.1.2.1
  have hl : lv_has ls 2 [(0, .ref a0), (1, .int (iI x0))] := hl
  refine lv_aload_n hx hb dX8_open_0 rfl (lv_at hl 0 rfl) ?_
  refine lv_iload_n hx hb dX8_open_1 rfl (lv_at hl 1 rfl) ?_
  refine r_put (ws' := [(a0, .inr (8, [.ref a1, .int (iI x1), .int (iI x0), .int (iI x3), .int (iI x4), .int (iI x5), (va_rf o0), .long y0, .int r0, .int (iI x6), .int (iI x7), .int (iI x8)])), (a1, .inl (T 0, 940, .inl (cI f0)))]) M w 0 2 clX8 rfl (by decide) G165 rfl rfl rfl rfl (Nat.le_of_ble_eq_true rfl) rfl dX8_open_2 (fun H locs w => ?_)
  refine lv_aload_n hx hb dX8_open_5 rfl (lv_at hl 0 rfl) ?_
  refine lv_iconst (v := iI 0) hx hb dX8_open_6 (by decide +kernel) ?_
  refine r_put (ws' := [(a0, .inr (8, [.ref a1, .int (iI x1), .int (iI x0), .int (iI 0), .int (iI x4), .int (iI x5), (va_rf o0), .long y0, .int r0, .int (iI x6), .int (iI x7), .int (iI x8)])), (a1, .inl (T 0, 940, .inl (cI f0)))]) M w 0 3 clX8 rfl (by decide) G166 rfl rfl rfl rfl (Nat.le_of_ble_eq_true rfl) rfl dX8_open_7 (fun H locs w => ?_)
  refine lv_aload_n hx hb dX8_open_10 rfl (lv_at hl 0 rfl) ?_
  refine lv_iconst (v := iI 0) hx hb dX8_open_11 (by decide +kernel) ?_
  refine r_put (ws' := [(a0, .inr (8, [.ref a1, .int (iI x1), .int (iI x0), .int (iI 0), .int (iI x4), .int (iI x5), (va_rf o0), .long y0, .int r0, .int (iI x6), .int (iI 0), .int (iI x8)])), (a1, .inl (T 0, 940, .inl (cI f0)))]) M w 0 10 clX8 rfl (by decide) G179 rfl rfl rfl rfl (Nat.le_of_ble_eq_true rfl) rfl dX8_open_12 (fun H locs w => ?_)
  refine lv_aload_n hx hb dX8_open_15 rfl (lv_at hl 0 rfl) ?_
  refine lv_iconst (v := iI 0) hx hb dX8_open_16 (by decide +kernel) ?_
  refine r_put (ws' := [(a0, .inr (8, [.ref a1, .int (iI x1), .int (iI x0), .int (iI 0), .int (iI x4), .int (iI x5), (va_rf o0), .long y0, .int r0, .int (iI x6), .int (iI 0), .int (iI 0)])), (a1, .inl (T 0, 940, .inl (cI f0)))]) M w 0 11 clX8 rfl (by decide) G181 rfl rfl rfl rfl (Nat.le_of_ble_eq_true rfl) rfl dX8_open_17 (fun H locs w => ?_)
  refine lv_aload_n hx hb dX8_open_20 rfl (lv_at hl 0 rfl) ?_
  refine k_V (ce := 0) (sl := 0) (rest := []) (wr := []) (r_V (f := 4) [0, 1] M w V_HookedCity_Tape_55 G587 G588 (c266_X8_step l D T _ a0 a1 x1 x0 0 x4 x5 o0 y0 r0 x6 0 0 f0 x1_a x1_b x0_a x0_b (by decide) (by decide) x4_a x4_b x5_a x5_b o0_h x6_a x6_b (by decide) (by decide) (by decide) (by decide) f0_h) 0 clX8 rfl rfl (by decide) rfl hl.1 rfl (Nat.le_of_ble_eq_true rfl) dX8_open_21 (by decide) (by decide) (by decide) (by decide)) w [0, 1] [] rfl rfl (by decide) (by decide) rfl rfl (fun u H locs hp w => ?_)
  obtain ⟨z1, z2, z3, fo4, fy5, fr6, z7⟩ := u
  have z1_a : 0 ≤ z1 := hp.1
  have z1_b : z1 ≤ 940 := hp.2.1
  have z2_a : 0 ≤ z2 := hp.2.2.1
  have z2_b : z2 ≤ 940 := hp.2.2.2.1
  have z3_a : 0 ≤ z3 := hp.2.2.2.2.1
  have z3_b : z3 ≤ 5 := hp.2.2.2.2.2.1
  have fo4_h : wok T fo4 := hp.2.2.2.2.2.2.1
  have z7_a : (-2147483648) ≤ z7 := hp.2.2.2.2.2.2.2.1
  have z7_b : z7 ≤ 2147483647 := hp.2.2.2.2.2.2.2.2.1
  have pq8 : gC T (tkAt f0 x1 x0 0) z3 z2 z1 fy5 fr6 z7 fo4 := hp.2.2.2.2.2.2.2.2.2
  have w : WD D A s.heap [(a0, .inr (8, [.ref a1, .int (iI x1), .int (iI x0), .int (iI z1), .int (iI z2), .int (iI z3), (va_rf fo4), .long fy5, .int fr6, .int (iI z7), .int (iI 0), .int (iI 0)])), (a1, .inl (T 0, 940, .inl (cI f0)))] H locs := w
  exact ret (x0, z1, z2, z3, fo4, fy5, fr6, z7, 0, 0) _ _ _ _ _ [0, 1] dX8_open_24 ⟨x0_a, x0_b, z1_a, z1_b, z2_a, z2_b, z3_a, z3_b, fo4_h, z7_a, z7_b, (show (-2147483648) ≤ 0 from by decide), (show (0 : Int) ≤ 2147483647 from by decide), (show (0 : Int) ≤ 0 from by decide), (show (0 : Int) ≤ 940 from by decide), (show 0 ≤ (x0 - x0) from by omega), (show 0 ≤ (x0 - x0) from by omega), (show 0 ≤ 0 from by omega), (show 0 ≤ (0 - 0) from by omega), (show gC T (tkAt f0 x1 x0 0) z3 z2 z1 fy5 fr6 z7 fo4 from pq8)⟩ w (by decide) rfl
set_option maxRecDepth 100000 in
set_option maxHeartbeats 4000000 in
theorem c268_X8_letterOf (l : Launch) (D : va_G) (T : Nat → ClassId) (sz : Nat) (y0 : Int64) (x0 : Int) (x0_a : (-2147483648) ≤ x0) (x0_b : x0 ≤ 2147483647) : Met l yX8_letterOf (Cond.code yX8_letterOf cX8_letterOf 4 (some .int) :: GW) (Rm 0 0 0) (cPre [.long y0, .int (iI x0)] D T [] sz) (qI D [] sz (fun (v : Int32) (u : Int) => iI u = v ∧ (-2147483648) ≤ u ∧ u ≤ 2147483647) (fun u => [])) 0 0 (va_A [] sz) := by
  refine e_I (by decide) (Nat.le_of_ble_eq_true rfl) ?_
  intro p e s m args below meth c A Q ls M hin w ret hl
  have hx := M.1.1
  have hb := M.1.2.1
  have hl : lv_has ls 4 [(0, .long y0), (2, .int (iI x0))] := hl
  refine lv_lload_n hx hb dX8_letterOf_0 rfl (lv_at hl 0 rfl) ?_
  refine lv_bipush (v := iI 6) hx hb dX8_letterOf_1 (by decide +kernel) ?_
  refine lv_iload_n hx hb dX8_letterOf_3 rfl (lv_at hl 1 rfl) ?_
  refine r_isub (v := _) M rfl dX8_letterOf_4 ?_
  refine b_any (fun z1 z1_a z1_b => ?_)
  refine lv_iconst (v := iI 5) hx hb dX8_letterOf_5 (by decide +kernel) ?_
  refine r_imul (v := _) M rfl dX8_letterOf_6 ?_
  refine b_any (fun z2 z2_a z2_b => ?_)
  refine lv_lushr (v := _) hx hb dX8_letterOf_7 rfl ?_
  refine b_anyl (fun fy3 => ?_)
  refine lv_l2i (v := _) hx hb dX8_letterOf_8 rfl ?_
  refine b_any (fun z4 z4_a z4_b => ?_)
  refine lv_bipush (v := iI 31) hx hb dX8_letterOf_9 (by decide +kernel) ?_
  refine r_iand (v := _) M rfl dX8_letterOf_11 ?_
  refine b_rng (lo := 0) (hi := 31) (iand_r (by omega) (by omega)) (fun z5 z5_a z5_b => ?_)
  refine lv_istore_n (lv' := [(3, .int (iI z5)), (0, .long y0), (2, .int (iI x0))]) hx hb dX8_letterOf_12 rfl hl (by decide) rfl (fun ls hl => ?_)
  refine lv_iload_n hx hb dX8_letterOf_13 rfl (lv_at hl 0 rfl) ?_
  refine lv_if_ne (tgt := 21) hx hb dX8_letterOf_14 (by decide) (fun c_6 => ?_) (fun c_6 => ?_)
  · replace c_6 : ¬ z5 = 0 := fun h => c_6 ((iz_eq (Int.le_trans (by decide) z5_a) (Int.le_trans z5_b (by decide))).mpr h)
    refine lv_bipush (v := iI 97) hx hb dX8_letterOf_21 (by decide +kernel) ?_
    refine lv_iload_n hx hb dX8_letterOf_23 rfl (lv_at hl 0 rfl) ?_
    refine r_iadd (v := iI (97 + z5)) M (iI_add _ _) dX8_letterOf_24 ?_
    refine lv_iconst (v := iI 1) hx hb dX8_letterOf_25 (by decide +kernel) ?_
    refine r_isub (v := iI ((97 + z5) - 1)) M (iI_sub _ _) dX8_letterOf_26 ?_
    exact ret _ ((97 + z5) - 1) _ _ _ _ _ [] dX8_letterOf_27 ⟨rfl, (show (-2147483648) ≤ ((97 + z5) - 1) from by omega), (show ((97 + z5) - 1) ≤ 2147483647 from by omega)⟩ w (by decide) rfl
  · replace c_6 := (iz_eq (Int.le_trans (by decide) z5_a) (Int.le_trans z5_b (by decide))).mp c_6
    refine lv_iconst (v := iI 0) hx hb dX8_letterOf_17 (by decide +kernel) ?_
    refine lv_goto (tgt := 27) hx hb dX8_letterOf_18 (by decide) ?_
    exact ret _ 0 _ _ _ _ _ [] dX8_letterOf_27 ⟨rfl, (show (-2147483648) ≤ 0 from by decide), (show (0 : Int) ≤ 2147483647 from by decide)⟩ w (by decide) rfl
set_option maxRecDepth 100000 in
set_option maxHeartbeats 4000000 in
theorem c269_X8_atEnd (l : Launch) (D : va_G) (T : Nat → ClassId) (sz : Nat) (a0 : Nat) (a1 : Nat) (x0 : Int) (x1 : Int) (x2 : Int) (x3 : Int) (x4 : Int) (o0 : Option Nat) (y0 : Int64) (r0 : Int32) (x5 : Int) (x6 : Int) (x7 : Int) (x0_a : 0 ≤ x0) (x0_b : x0 ≤ 940) (x1_a : 0 ≤ x1) (x1_b : x1 ≤ 940) (x2_a : 0 ≤ x2) (x2_b : x2 ≤ 940) (x3_a : 0 ≤ x3) (x3_b : x3 ≤ 940) (x4_a : 0 ≤ x4) (x4_b : x4 ≤ 5) (o0_h : wok T o0) (x5_a : (-2147483648) ≤ x5) (x5_b : x5 ≤ 2147483647) (x6_a : (-2147483648) ≤ x6) (x6_b : x6 ≤ 2147483647) (x7_a : 0 ≤ x7) (x7_b : x7 ≤ 940) : Met l yX8_atEnd (Cond.code yX8_atEnd cX8_atEnd 1 (some .boolean) :: GW) (Rm 0 0 0) (cPre [.ref a0] D T [(a0, .inr (8, [.ref a1, .int (iI x0), .int (iI x1), .int (iI x2), .int (iI x3), .int (iI x4), (va_rf o0), .long y0, .int r0, .int (iI x5), .int (iI x6), .int (iI x7)]))] sz) (qI D [(a0, .inr (8, [.ref a1, .int (iI x0), .int (iI x1), .int (iI x2), .int (iI x3), .int (iI x4), (va_rf o0), .long y0, .int r0, .int (iI x5), .int (iI x6), .int (iI x7)]))] sz (fun (v : Int32) (u : Int) => iI u = v ∧ 0 ≤ u ∧ u ≤ 1 ∧ ((¬ x4 = 0 ∧ u = 0) ∨ (x4 = 0 ∧ u = 1))) (fun u => [(a0, .inr (8, [.ref a1, .int (iI x0), .int (iI x1), .int (iI x2), .int (iI x3), .int (iI x4), (va_rf o0), .long y0, .int r0, .int (iI x5), .int (iI x6), .int (iI x7)]))])) 0 0 (va_A [(a0, .inr (8, [.ref a1, .int (iI x0), .int (iI x1), .int (iI x2), .int (iI x3), .int (iI x4), (va_rf o0), .long y0, .int r0, .int (iI x5), .int (iI x6), .int (iI x7)]))] sz) := by
  refine e_Z (by decide) (Nat.le_of_ble_eq_true rfl) ?_
  intro p e s m args below meth c A Q ls M hin w ret hl
  have hx := M.1.1
  have hb := M.1.2.1
  have hl : lv_has ls 1 [(0, .ref a0)] := hl
  refine lv_aload_n hx hb dX8_atEnd_0 rfl (lv_at hl 0 rfl) ?_
  refine r_get (v := .int (iI x4)) M w 0 5 clX8 rfl (by decide) G168 rfl rfl dX8_atEnd_1 ?_
  refine lv_if_ne (tgt := 11) hx hb dX8_atEnd_4 (by decide) (fun c_1 => ?_) (fun c_1 => ?_)
  · replace c_1 : ¬ x4 = 0 := fun h => c_1 ((iz_eq (Int.le_trans (by decide) x4_a) (Int.le_trans x4_b (by decide))).mpr h)
    refine lv_iconst (v := iI 0) hx hb dX8_atEnd_11 (by decide +kernel) ?_
    exact ret _ 0 _ _ _ _ _ [0] dX8_atEnd_12 (by decide +kernel) ⟨rfl, (show (0 : Int) ≤ 0 from by decide), (show (0 : Int) ≤ 1 from by decide), (Or.inl ⟨c_1, rfl⟩)⟩ w (by decide) rfl
  · replace c_1 := (iz_eq (Int.le_trans (by decide) x4_a) (Int.le_trans x4_b (by decide))).mp c_1
    refine lv_iconst (v := iI 1) hx hb dX8_atEnd_7 (by decide +kernel) ?_
    refine lv_goto (tgt := 12) hx hb dX8_atEnd_8 (by decide) ?_
    exact ret _ 1 _ _ _ _ _ [0] dX8_atEnd_12 (by decide +kernel) ⟨rfl, (show (0 : Int) ≤ 1 from by decide), (show (1 : Int) ≤ 1 from by decide), (Or.inr (⟨c_1, rfl⟩))⟩ w (by decide) rfl
set_option maxRecDepth 100000 in
set_option maxHeartbeats 4000000 in
theorem c270_X8_atMark (l : Launch) (D : va_G) (T : Nat → ClassId) (sz : Nat) (a0 : Nat) (x0 : Int) (a1 : Nat) (x1 : Int) (x2 : Int) (x3 : Int) (x4 : Int) (x5 : Int) (o0 : Option Nat) (y0 : Int64) (r0 : Int32) (x6 : Int) (x7 : Int) (x8 : Int) (x0_a : 0 ≤ x0) (x0_b : x0 ≤ 65535) (x1_a : 0 ≤ x1) (x1_b : x1 ≤ 940) (x2_a : 0 ≤ x2) (x2_b : x2 ≤ 940) (x3_a : 0 ≤ x3) (x3_b : x3 ≤ 940) (x4_a : 0 ≤ x4) (x4_b : x4 ≤ 940) (x5_a : 0 ≤ x5) (x5_b : x5 ≤ 5) (o0_h : wok T o0) (x6_a : (-2147483648) ≤ x6) (x6_b : x6 ≤ 2147483647) (x7_a : (-2147483648) ≤ x7) (x7_b : x7 ≤ 2147483647) (x8_a : 0 ≤ x8) (x8_b : x8 ≤ 940) : Met l yX8_atMark (Cond.code yX8_atMark cX8_atMark 2 (some .boolean) :: GW) (Rm 0 0 0) (cPre [.ref a0, .int (iI x0)] D T [(a0, .inr (8, [.ref a1, .int (iI x1), .int (iI x2), .int (iI x3), .int (iI x4), .int (iI x5), (va_rf o0), .long y0, .int r0, .int (iI x6), .int (iI x7), .int (iI x8)]))] sz) (qI D [(a0, .inr (8, [.ref a1, .int (iI x1), .int (iI x2), .int (iI x3), .int (iI x4), .int (iI x5), (va_rf o0), .long y0, .int r0, .int (iI x6), .int (iI x7), .int (iI x8)]))] sz (fun (v : Int32) (u : Int) => iI u = v ∧ 0 ≤ u ∧ u ≤ 1 ∧ (amQ u x5 x6 x0)) (fun u => [(a0, .inr (8, [.ref a1, .int (iI x1), .int (iI x2), .int (iI x3), .int (iI x4), .int (iI x5), (va_rf o0), .long y0, .int r0, .int (iI x6), .int (iI x7), .int (iI x8)]))])) 0 0 (va_A [(a0, .inr (8, [.ref a1, .int (iI x1), .int (iI x2), .int (iI x3), .int (iI x4), .int (iI x5), (va_rf o0), .long y0, .int r0, .int (iI x6), .int (iI x7), .int (iI x8)]))] sz) := by
  refine e_Z (by decide) (Nat.le_of_ble_eq_true rfl) ?_
  intro p e s m args below meth c A Q ls M hin w ret hl
  have hx := M.1.1
  have hb := M.1.2.1
  have hl : lv_has ls 2 [(0, .ref a0), (1, .int (iI x0))] := hl
  refine lv_aload_n hx hb dX8_atMark_0 rfl (lv_at hl 0 rfl) ?_
  refine r_get (v := .int (iI x5)) M w 0 5 clX8 rfl (by decide) G168 rfl rfl dX8_atMark_1 ?_
  refine lv_iconst (v := iI 5) hx hb dX8_atMark_4 (by decide +kernel) ?_
  refine lv_icmp_ne (tgt := 20) hx hb dX8_atMark_5 (by decide) (fun c_1 => ?_) (fun c_1 => ?_)
  · replace c_1 : ¬ x5 = 5 := fun h => c_1 ((iI_eq (Int.le_trans (by decide) x5_a) (Int.le_trans x5_b (by decide)) (by decide) (by decide)).mpr h)
    refine lv_iconst (v := iI 0) hx hb dX8_atMark_20 (by decide +kernel) ?_
    exact ret _ 0 _ _ _ _ _ [0] dX8_atMark_21 (by decide +kernel) ⟨rfl, (show (0 : Int) ≤ 0 from by decide), (show (0 : Int) ≤ 1 from by decide), (show amQ 0 x5 x6 x0 from (by unfold amQ; omega))⟩ w (by decide) rfl
  · replace c_1 := (iI_eq (Int.le_trans (by decide) x5_a) (Int.le_trans x5_b (by decide)) (by decide) (by decide)).mp c_1
    refine lv_aload_n hx hb dX8_atMark_8 rfl (lv_at hl 0 rfl) ?_
    refine r_get (v := .int (iI x6)) M w 0 9 clX8 rfl (by decide) G177 rfl rfl dX8_atMark_9 ?_
    refine lv_iload_n hx hb dX8_atMark_12 rfl (lv_at hl 1 rfl) ?_
    refine lv_icmp_ne (tgt := 20) hx hb dX8_atMark_13 (by decide) (fun c_2 => ?_) (fun c_2 => ?_)
    · replace c_2 : ¬ x6 = x0 := fun h => c_2 ((iI_eq (Int.le_trans (by decide) x6_a) (Int.le_trans x6_b (by decide)) (Int.le_trans (by decide) x0_a) (Int.le_trans x0_b (by decide))).mpr h)
      refine lv_iconst (v := iI 0) hx hb dX8_atMark_20 (by decide +kernel) ?_
      exact ret _ 0 _ _ _ _ _ [0] dX8_atMark_21 (by decide +kernel) ⟨rfl, (show (0 : Int) ≤ 0 from by decide), (show (0 : Int) ≤ 1 from by decide), (show amQ 0 x5 x6 x0 from (by unfold amQ; omega))⟩ w (by decide) rfl
    · replace c_2 := (iI_eq (Int.le_trans (by decide) x6_a) (Int.le_trans x6_b (by decide)) (Int.le_trans (by decide) x0_a) (Int.le_trans x0_b (by decide))).mp c_2
      refine lv_iconst (v := iI 1) hx hb dX8_atMark_16 (by decide +kernel) ?_
      refine lv_goto (tgt := 21) hx hb dX8_atMark_17 (by decide) ?_
      exact ret _ 1 _ _ _ _ _ [0] dX8_atMark_21 (by decide +kernel) ⟨rfl, (show (0 : Int) ≤ 1 from by decide), (show (1 : Int) ≤ 1 from by decide), (show amQ 1 x5 x6 x0 from (by unfold amQ; omega))⟩ w (by decide) rfl
set_option maxRecDepth 100000 in
set_option maxHeartbeats 4000000 in
theorem c271_X8_fail (l : Launch) (D : va_G) (T : Nat → ClassId) (sz : Nat) (a0 : Nat) (x0 : Int) (a1 : Nat) (x1 : Int) (x2 : Int) (x3 : Int) (x4 : Int) (x5 : Int) (o0 : Option Nat) (y0 : Int64) (r0 : Int32) (x6 : Int) (x7 : Int) (x8 : Int) (x0_a : (-2147483648) ≤ x0) (x0_b : x0 ≤ 2147483647) (x1_a : 0 ≤ x1) (x1_b : x1 ≤ 940) (x2_a : 0 ≤ x2) (x2_b : x2 ≤ 940) (x3_a : 0 ≤ x3) (x3_b : x3 ≤ 940) (x4_a : 0 ≤ x4) (x4_b : x4 ≤ 940) (x5_a : 0 ≤ x5) (x5_b : x5 ≤ 5) (o0_h : wok T o0) (x6_a : (-2147483648) ≤ x6) (x6_b : x6 ≤ 2147483647) (x7_a : (-2147483648) ≤ x7) (x7_b : x7 ≤ 2147483647) (x8_a : 0 ≤ x8) (x8_b : x8 ≤ 940) : Met l yX8_fail (Cond.code yX8_fail cX8_fail 2 (some .boolean) :: GW) (Rm 0 0 0) (cPre [.ref a0, .int (iI x0)] D T [(a0, .inr (8, [.ref a1, .int (iI x1), .int (iI x2), .int (iI x3), .int (iI x4), .int (iI x5), (va_rf o0), .long y0, .int r0, .int (iI x6), .int (iI x7), .int (iI x8)]))] sz) (qI D [(a0, .inr (8, [.ref a1, .int (iI x1), .int (iI x2), .int (iI x3), .int (iI x4), .int (iI x5), (va_rf o0), .long y0, .int r0, .int (iI x6), .int (iI x7), .int (iI x8)]))] sz (fun (v : Int32) (u : Int × Int × Int) => iI u.1 = v ∧ 0 ≤ u.1 ∧ u.1 ≤ 1 ∧ (-2147483648) ≤ u.2.1 ∧ u.2.1 ≤ 2147483647 ∧ 0 ≤ u.2.2 ∧ u.2.2 ≤ 940 ∧ (u.2.1 = x0) ∧ (u.2.2 = x4) ∧ ((u.1 = 0))) (fun u => [(a0, .inr (8, [.ref a1, .int (iI x1), .int (iI x2), .int (iI x3), .int (iI x4), .int (iI x5), (va_rf o0), .long y0, .int r0, .int (iI x6), .int (iI u.2.1), .int (iI u.2.2)]))])) 0 0 (va_A [(a0, .inr (8, [.ref a1, .int (iI x1), .int (iI x2), .int (iI x3), .int (iI x4), .int (iI x5), (va_rf o0), .long y0, .int r0, .int (iI x6), .int (iI x7), .int (iI x8)]))] sz) := by
  refine e_Z (by decide) (Nat.le_of_ble_eq_true rfl) ?_
  intro p e s m args below meth c A Q ls M hin w ret hl
  have hx := M.1.1
  have hb := M.1.2.1
  have hl : lv_has ls 2 [(0, .ref a0), (1, .int (iI x0))] := hl
  refine lv_aload_n hx hb dX8_fail_0 rfl (lv_at hl 0 rfl) ?_
  refine lv_iload_n hx hb dX8_fail_1 rfl (lv_at hl 1 rfl) ?_
  refine r_put (ws' := [(a0, .inr (8, [.ref a1, .int (iI x1), .int (iI x2), .int (iI x3), .int (iI x4), .int (iI x5), (va_rf o0), .long y0, .int r0, .int (iI x6), .int (iI x0), .int (iI x8)]))]) M w 0 10 clX8 rfl (by decide) G179 rfl rfl rfl rfl (Nat.le_of_ble_eq_true rfl) rfl dX8_fail_2 (fun H locs w => ?_)
  refine lv_aload_n hx hb dX8_fail_5 rfl (lv_at hl 0 rfl) ?_
  refine lv_aload_n hx hb dX8_fail_6 rfl (lv_at hl 0 rfl) ?_
  refine r_get (v := .int (iI x4)) M w 0 4 clX8 rfl (by decide) G167 rfl rfl dX8_fail_7 ?_
  refine r_put (ws' := [(a0, .inr (8, [.ref a1, .int (iI x1), .int (iI x2), .int (iI x3), .int (iI x4), .int (iI x5), (va_rf o0), .long y0, .int r0, .int (iI x6), .int (iI x0), .int (iI x4)]))]) M w 0 11 clX8 rfl (by decide) G181 rfl rfl rfl rfl (Nat.le_of_ble_eq_true rfl) rfl dX8_fail_10 (fun H locs w => ?_)
  refine lv_iconst (v := iI 0) hx hb dX8_fail_13 (by decide +kernel) ?_
  exact ret _ (0, x0, x4) _ _ _ _ _ [0] dX8_fail_14 (by decide +kernel) ⟨rfl, (show (0 : Int) ≤ 0 from by decide), (show (0 : Int) ≤ 1 from by decide), x0_a, x0_b, x4_a, x4_b, (show x0 = x0 from rfl), (show x4 = x4 from rfl), rfl⟩ w (by decide) rfl
set_option maxRecDepth 100000 in
set_option maxHeartbeats 4000000 in
theorem c272_X8_pass (l : Launch) (D : va_G) (T : Nat → ClassId) (sz : Nat) (a0 : Nat) (x0 : Int) (a1 : Nat) (x1 : Int) (x2 : Int) (x3 : Int) (x4 : Int) (x5 : Int) (o0 : Option Nat) (y0 : Int64) (r0 : Int32) (x6 : Int) (x7 : Int) (x8 : Int) (f0 : Int → Int) (x0_a : 0 ≤ x0) (x0_b : x0 ≤ 65535) (x1_a : 0 ≤ x1) (x1_b : x1 ≤ 940) (x2_a : 0 ≤ x2) (x2_b : x2 ≤ 940) (x3_a : 0 ≤ x3) (x3_b : x3 ≤ 940) (x4_a : 0 ≤ x4) (x4_b : x4 ≤ 940) (x5_a : 0 ≤ x5) (x5_b : x5 ≤ 5) (o0_h : wok T o0) (x6_a : (-2147483648) ≤ x6) (x6_b : x6 ≤ 2147483647) (x7_a : (-2147483648) ≤ x7) (x7_b : x7 ≤ 2147483647) (x8_a : 0 ≤ x8) (x8_b : x8 ≤ 940) (f0_h : rng 0 255 f0) : Met l yX8_pass (Cond.code yX8_pass cX8_pass 2 (some .boolean) :: GW) (Rm 5 0 0) (cPre [.ref a0, .int (iI x0)] D T [(a0, .inr (8, [.ref a1, .int (iI x1), .int (iI x2), .int (iI x3), .int (iI x4), .int (iI x5), (va_rf o0), .long y0, .int r0, .int (iI x6), .int (iI x7), .int (iI x8)])), (a1, .inl (T 0, 940, .inl (cI f0)))] sz) (qI D [(a0, .inr (8, [.ref a1, .int (iI x1), .int (iI x2), .int (iI x3), .int (iI x4), .int (iI x5), (va_rf o0), .long y0, .int r0, .int (iI x6), .int (iI x7), .int (iI x8)])), (a1, .inl (T 0, 940, .inl (cI f0)))] sz (fun (v : Int32) (u : Int × Int × Int × Int × Option Nat × Int64 × Int32 × Int × Int × Int) => iI u.1 = v ∧ 0 ≤ u.1 ∧ u.1 ≤ 1 ∧ 0 ≤ u.2.1 ∧ u.2.1 ≤ 940 ∧ 0 ≤ u.2.2.1 ∧ u.2.2.1 ≤ 940 ∧ 0 ≤ u.2.2.2.1 ∧ u.2.2.2.1 ≤ 5 ∧ wok T u.2.2.2.2.1 ∧ (-2147483648) ≤ u.2.2.2.2.2.2.2.1 ∧ u.2.2.2.2.2.2.2.1 ≤ 2147483647 ∧ (-2147483648) ≤ u.2.2.2.2.2.2.2.2.1 ∧ u.2.2.2.2.2.2.2.2.1 ≤ 2147483647 ∧ 0 ≤ u.2.2.2.2.2.2.2.2.2 ∧ u.2.2.2.2.2.2.2.2.2 ≤ 940 ∧ (∀ x : Tk × Int × Int, gC T x x5 x4 x3 y0 r0 x6 o0 → enP f0 x1 x2 x0 x u.1 u.2.2.2.2.2.2.2.2.1 u.2.2.2.2.2.2.2.2.2 (fun y => gC T y u.2.2.2.1 u.2.2.1 u.2.1 u.2.2.2.2.2.1 u.2.2.2.2.2.2.1 u.2.2.2.2.2.2.2.1 u.2.2.2.2.1)) ∧ (kpB u.1 x7 u.2.2.2.2.2.2.2.2.1)) (fun u => [(a0, .inr (8, [.ref a1, .int (iI x1), .int (iI x2), .int (iI u.2.1), .int (iI u.2.2.1), .int (iI u.2.2.2.1), (va_rf u.2.2.2.2.1), .long u.2.2.2.2.2.1, .int u.2.2.2.2.2.2.1, .int (iI u.2.2.2.2.2.2.2.1), .int (iI u.2.2.2.2.2.2.2.2.1), .int (iI u.2.2.2.2.2.2.2.2.2)])), (a1, .inl (T 0, 940, .inl (cI f0)))])) 0 0 (va_A [(a0, .inr (8, [.ref a1, .int (iI x1), .int (iI x2), .int (iI x3), .int (iI x4), .int (iI x5), (va_rf o0), .long y0, .int r0, .int (iI x6), .int (iI x7), .int (iI x8)])), (a1, .inl (T 0, 940, .inl (cI f0)))] sz) := by
  refine e_Z (by decide) (Nat.le_of_ble_eq_true rfl) ?_
  intro p e s m args below meth c A Q ls M hin w ret hl
  have hx := M.1.1
  have hb := M.1.2.1
  have hl : lv_has ls 2 [(0, .ref a0), (1, .int (iI x0))] := hl
  refine lv_aload_n hx hb dX8_pass_0 rfl (lv_at hl 0 rfl) ?_
  refine lv_iload_n hx hb dX8_pass_1 rfl (lv_at hl 1 rfl) ?_
  refine k_I (ce := 0) (sl := 0) (rest := []) (wr := [(a1, .inl (T 0, 940, .inl (cI f0)))]) (r_V (f := 0) [0] M w V_HookedCity_Tape_86 G783 G784 (c270_X8_atMark l D T _ a0 x0 a1 x1 x2 x3 x4 x5 o0 y0 r0 x6 x7 x8 x0_a x0_b x1_a x1_b x2_a x2_b x3_a x3_b x4_a x4_b x5_a x5_b o0_h x6_a x6_b x7_a x7_b x8_a x8_b) 0 clX8 rfl rfl (by decide) rfl hl.1 rfl (Nat.le_of_ble_eq_true rfl) dX8_pass_2 (by decide) (by decide) (by decide) (by decide)) w [0] [1] rfl rfl (by decide) (by decide) rfl rfl (fun v z1 H locs hp w => ?_)
  have hv : iI z1 = v := hp.1
  subst hv
  have z1_a : 0 ≤ z1 := hp.2.1
  have z1_b : z1 ≤ 1 := hp.2.2.1
  have pq2 : amQ z1 x5 x6 x0 := hp.2.2.2
  have w : WD D A s.heap [(a1, .inl (T 0, 940, .inl (cI f0))), (a0, .inr (8, [.ref a1, .int (iI x1), .int (iI x2), .int (iI x3), .int (iI x4), .int (iI x5), (va_rf o0), .long y0, .int r0, .int (iI x6), .int (iI x7), .int (iI x8)]))] H locs := w
  refine lv_if_ne (tgt := 14) hx hb dX8_pass_5 (by decide) (fun c_3 => ?_) (fun c_3 => ?_)
  · replace c_3 : ¬ z1 = 0 := fun h => c_3 ((iz_eq (Int.le_trans (by decide) z1_a) (Int.le_trans z1_b (by decide))).mpr h)
    refine lv_aload_n hx hb dX8_pass_14 rfl (lv_at hl 0 rfl) ?_
    refine k_V (ce := 0) (sl := 0) (rest := []) (wr := []) (r_V (f := 4) [1, 0] M w V_HookedCity_Tape_55 G587 G588 (c266_X8_step l D T _ a0 a1 x1 x2 x3 x4 x5 o0 y0 r0 x6 x7 x8 f0 x1_a x1_b x2_a x2_b x3_a x3_b x4_a x4_b x5_a x5_b o0_h x6_a x6_b x7_a x7_b x8_a x8_b f0_h) 1 clX8 rfl rfl (by decide) rfl hl.1 rfl (Nat.le_of_ble_eq_true rfl) dX8_pass_15 (by decide) (by decide) (by decide) (by decide)) w [1, 0] [] rfl rfl (by decide) (by decide) rfl rfl (fun u H locs hp w => ?_)
    obtain ⟨z4, z5, z6, fo7, fy8, fr9, z10⟩ := u
    have z4_a : 0 ≤ z4 := hp.1
    have z4_b : z4 ≤ 940 := hp.2.1
    have z5_a : 0 ≤ z5 := hp.2.2.1
    have z5_b : z5 ≤ 940 := hp.2.2.2.1
    have z6_a : 0 ≤ z6 := hp.2.2.2.2.1
    have z6_b : z6 ≤ 5 := hp.2.2.2.2.2.1
    have fo7_h : wok T fo7 := hp.2.2.2.2.2.2.1
    have z10_a : (-2147483648) ≤ z10 := hp.2.2.2.2.2.2.2.1
    have z10_b : z10 ≤ 2147483647 := hp.2.2.2.2.2.2.2.2.1
    have pq11 : gC T (tkAt f0 x1 x2 x3) z6 z5 z4 fy8 fr9 z10 fo7 := hp.2.2.2.2.2.2.2.2.2
    have w : WD D A s.heap [(a0, .inr (8, [.ref a1, .int (iI x1), .int (iI x2), .int (iI z4), .int (iI z5), .int (iI z6), (va_rf fo7), .long fy8, .int fr9, .int (iI z10), .int (iI x7), .int (iI x8)])), (a1, .inl (T 0, 940, .inl (cI f0)))] H locs := w
    refine lv_iconst (v := iI 1) hx hb dX8_pass_18 (by decide +kernel) ?_
    exact ret _ (1, z4, z5, z6, fo7, fy8, fr9, z10, x7, x8) _ _ _ _ _ [0, 1] dX8_pass_19 (by decide +kernel) ⟨rfl, (show (0 : Int) ≤ 1 from by decide), (show (1 : Int) ≤ 1 from by decide), z4_a, z4_b, z5_a, z5_b, z6_a, z6_b, fo7_h, z10_a, z10_b, x7_a, x7_b, x8_a, x8_b, (show ∀ x : Tk × Int × Int, gC T x x5 x4 x3 y0 r0 x6 o0 → enP f0 x1 x2 x0 x 1 x7 x8 (fun y => gC T y z6 z5 z4 fy8 fr9 z10 fo7) from (pas_B pq2 (by omega) pq11)), (show kpB 1 x7 x7 from (fun hr => by omega))⟩ w (by decide) rfl
  · replace c_3 := (iz_eq (Int.le_trans (by decide) z1_a) (Int.le_trans z1_b (by decide))).mp c_3
    refine lv_aload_n hx hb dX8_pass_8 rfl (lv_at hl 0 rfl) ?_
    refine lv_iconst (v := iI 1) hx hb dX8_pass_9 (by decide +kernel) ?_
    refine k_I (ce := 0) (sl := 0) (rest := []) (wr := [(a1, .inl (T 0, 940, .inl (cI f0)))]) (r_V (f := 0) [1] M w V_HookedCity_Tape_90 G710 G711 (c271_X8_fail l D T _ a0 1 a1 x1 x2 x3 x4 x5 o0 y0 r0 x6 x7 x8 (by decide) (by decide) x1_a x1_b x2_a x2_b x3_a x3_b x4_a x4_b x5_a x5_b o0_h x6_a x6_b x7_a x7_b x8_a x8_b) 1 clX8 rfl rfl (by decide) rfl hl.1 rfl (Nat.le_of_ble_eq_true rfl) dX8_pass_10 (by decide) (by decide) (by decide) (by decide)) w [1] [0] rfl rfl (by decide) (by decide) rfl rfl (fun v u H locs hp w => ?_)
    obtain ⟨z12, z13, z14⟩ := u
    have hv : iI z12 = v := hp.1
    subst hv
    have z12_a : 0 ≤ z12 := hp.2.1
    have z12_b : z12 ≤ 1 := hp.2.2.1
    have z13_a : (-2147483648) ≤ z13 := hp.2.2.2.1
    have z13_b : z13 ≤ 2147483647 := hp.2.2.2.2.1
    have z14_a : 0 ≤ z14 := hp.2.2.2.2.2.1
    have z14_b : z14 ≤ 940 := hp.2.2.2.2.2.2.1
    have pq15 : z13 = 1 := hp.2.2.2.2.2.2.2.1
    have pq16 : z14 = x4 := hp.2.2.2.2.2.2.2.2.1
    have w : WD D A s.heap [(a1, .inl (T 0, 940, .inl (cI f0))), (a0, .inr (8, [.ref a1, .int (iI x1), .int (iI x2), .int (iI x3), .int (iI x4), .int (iI x5), (va_rf o0), .long y0, .int r0, .int (iI x6), .int (iI z13), .int (iI z14)]))] H locs := w
    rcases hp.2.2.2.2.2.2.2.2.2 with hr
    · subst hr
      exact ret _ (0, x3, x4, x5, o0, y0, r0, x6, z13, z14) _ _ _ _ _ [1, 0] dX8_pass_13 (by decide +kernel) ⟨rfl, (show (0 : Int) ≤ 0 from by decide), (show (0 : Int) ≤ 1 from by decide), x3_a, x3_b, x4_a, x4_b, x5_a, x5_b, o0_h, x6_a, x6_b, z13_a, z13_b, z14_a, z14_b, (show ∀ x : Tk × Int × Int, gC T x x5 x4 x3 y0 r0 x6 o0 → enP f0 x1 x2 x0 x 0 z13 z14 (fun y => gC T y x5 x4 x3 y0 r0 x6 o0) from (pas_A pq2 (by omega) (by omega) pq16)), (show kpB 0 x7 z13 from (fun e => absurd e (by decide)))⟩ w (by decide) rfl
set_option maxRecDepth 100000 in
set_option maxHeartbeats 4000000 in
theorem c273_X8_numberAt (l : Launch) (D : va_G) (T : Nat → ClassId) (sz : Nat) (a0 : Nat) (x0 : Int) (x1 : Int) (a1 : Nat) (x2 : Int) (x3 : Int) (x4 : Int) (x5 : Int) (x6 : Int) (o0 : Option Nat) (y0 : Int64) (r0 : Int32) (x7 : Int) (x8 : Int) (x9 : Int) (x0_a : (-2147483648) ≤ x0) (x0_b : x0 ≤ 2147483647) (x1_a : (-2147483648) ≤ x1) (x1_b : x1 ≤ 2147483647) (x2_a : 0 ≤ x2) (x2_b : x2 ≤ 940) (x3_a : 0 ≤ x3) (x3_b : x3 ≤ 940) (x4_a : 0 ≤ x4) (x4_b : x4 ≤ 940) (x5_a : 0 ≤ x5) (x5_b : x5 ≤ 940) (x6_a : 0 ≤ x6) (x6_b : x6 ≤ 5) (o0_h : wok T o0) (x7_a : (-2147483648) ≤ x7) (x7_b : x7 ≤ 2147483647) (x8_a : (-2147483648) ≤ x8) (x8_b : x8 ≤ 2147483647) (x9_a : 0 ≤ x9) (x9_b : x9 ≤ 940) : Met l yX8_numberAt (Cond.code yX8_numberAt cX8_numberAt 3 (some .int) :: GW) (Rm 1 0 0) (cPre [.ref a0, .int (iI x0), .int (iI x1)] D T [(a0, .inr (8, [.ref a1, .int (iI x2), .int (iI x3), .int (iI x4), .int (iI x5), .int (iI x6), (va_rf o0), .long y0, .int r0, .int (iI x7), .int (iI x8), .int (iI x9)]))] sz) (qI D [(a0, .inr (8, [.ref a1, .int (iI x2), .int (iI x3), .int (iI x4), .int (iI x5), .int (iI x6), (va_rf o0), .long y0, .int r0, .int (iI x7), .int (iI x8), .int (iI x9)]))] sz (fun (v : Int32) (u : Int × Int × Int) => iI u.1 = v ∧ (-2147483648) ≤ u.1 ∧ u.1 ≤ 2147483647 ∧ (-2147483648) ≤ u.2.1 ∧ u.2.1 ≤ 2147483647 ∧ 0 ≤ u.2.2 ∧ u.2.2 ≤ 940 ∧ (∀ x : Tk × Int × Int, gC T x x6 x5 x4 y0 r0 x7 o0 → XV (sNu x0 x1 x) u.1 u.2.1 u.2.2) ∧ (kpF u.1 x8 u.2.1)) (fun u => [(a0, .inr (8, [.ref a1, .int (iI x2), .int (iI x3), .int (iI x4), .int (iI x5), .int (iI x6), (va_rf o0), .long y0, .int r0, .int (iI x7), .int (iI u.2.1), .int (iI u.2.2)]))])) 0 0 (va_A [(a0, .inr (8, [.ref a1, .int (iI x2), .int (iI x3), .int (iI x4), .int (iI x5), .int (iI x6), (va_rf o0), .long y0, .int r0, .int (iI x7), .int (iI x8), .int (iI x9)]))] sz) := by
  refine e_I (by decide) (Nat.le_of_ble_eq_true rfl) ?_
  intro p e s m args below meth c A Q ls M hin w ret hl
  have hx := M.1.1
  have hb := M.1.2.1
  have hl : lv_has ls 3 [(0, .ref a0), (1, .int (iI x0)), (2, .int (iI x1))] := hl
  refine lv_aload_n hx hb dX8_numberAt_0 rfl (lv_at hl 0 rfl) ?_
  refine r_get (v := .int (iI x6)) M w 0 5 clX8 rfl (by decide) G168 rfl rfl dX8_numberAt_1 ?_
  refine lv_iconst (v := iI 4) hx hb dX8_numberAt_4 (by decide +kernel) ?_
  refine lv_icmp_eq (tgt := 16) hx hb dX8_numberAt_5 (by decide) (fun c_1 => ?_) (fun c_1 => ?_)
  · replace c_1 := (iI_eq (Int.le_trans (by decide) x6_a) (Int.le_trans x6_b (by decide)) (by decide) (by decide)).mp c_1
    refine lv_aload_n hx hb dX8_numberAt_16 rfl (lv_at hl 0 rfl) ?_
    refine r_get (v := .int r0) M w 0 8 clX8 rfl (by decide) G176 rfl rfl dX8_numberAt_17 ?_
    refine b_anyx (fun z2 z2_a z2_b hz3 => ?_)
    refine lv_iload_n hx hb dX8_numberAt_20 rfl (lv_at hl 1 rfl) ?_
    refine lv_icmp_lt (tgt := 32) hx hb dX8_numberAt_21 (by decide) (fun c_4 => ?_) (fun c_4 => ?_)
    · replace c_4 := (iI_lt (Int.le_trans (by decide) z2_a) (Int.le_trans z2_b (by decide)) (Int.le_trans (by decide) x0_a) (Int.le_trans x0_b (by decide))).mp c_4
      refine lv_aload_n hx hb dX8_numberAt_32 rfl (lv_at hl 0 rfl) ?_
      refine lv_iconst (v := iI 2) hx hb dX8_numberAt_33 (by decide +kernel) ?_
      refine k_I (ce := 0) (sl := 0) (rest := []) (wr := []) (r_V (f := 0) [0] M w V_HookedCity_Tape_90 G710 G711 (c271_X8_fail l D T _ a0 2 a1 x2 x3 x4 x5 x6 o0 y0 r0 x7 x8 x9 (by decide) (by decide) x2_a x2_b x3_a x3_b x4_a x4_b x5_a x5_b x6_a x6_b o0_h x7_a x7_b x8_a x8_b x9_a x9_b) 0 clX8 rfl rfl (by decide) rfl hl.1 rfl (Nat.le_of_ble_eq_true rfl) dX8_numberAt_34 (by decide) (by decide) (by decide) (by decide)) w [0] [] rfl rfl (by decide) (by decide) rfl rfl (fun v u H locs hp w => ?_)
      obtain ⟨z5, z6, z7⟩ := u
      have hv : iI z5 = v := hp.1
      subst hv
      have z5_a : 0 ≤ z5 := hp.2.1
      have z5_b : z5 ≤ 1 := hp.2.2.1
      have z6_a : (-2147483648) ≤ z6 := hp.2.2.2.1
      have z6_b : z6 ≤ 2147483647 := hp.2.2.2.2.1
      have z7_a : 0 ≤ z7 := hp.2.2.2.2.2.1
      have z7_b : z7 ≤ 940 := hp.2.2.2.2.2.2.1
      have pq8 : z6 = 2 := hp.2.2.2.2.2.2.2.1
      have pq9 : z7 = x5 := hp.2.2.2.2.2.2.2.2.1
      have w : WD D A s.heap [(a0, .inr (8, [.ref a1, .int (iI x2), .int (iI x3), .int (iI x4), .int (iI x5), .int (iI x6), (va_rf o0), .long y0, .int r0, .int (iI x7), .int (iI z6), .int (iI z7)]))] H locs := w
      rcases hp.2.2.2.2.2.2.2.2.2 with hr
      · subst hr
        refine lv_pop hx hb dX8_numberAt_37 rfl ?_
        refine lv_iconst (v := iI (-1)) hx hb dX8_numberAt_38 (by decide +kernel) ?_
        exact ret _ ((-1), z6, z7) _ _ _ _ _ [0] dX8_numberAt_39 ⟨rfl, (show (-2147483648) ≤ (-1) from by decide), (show ((-1) : Int) ≤ 2147483647 from by decide), z6_a, z6_b, z7_a, z7_b, (show ∀ x : Tk × Int × Int, gC T x x6 x5 x4 y0 r0 x7 o0 → XV (sNu x0 x1 x) (-1) z6 z7 from (cnum_B (by omega) hz3 z2_a z2_b (by omega) (by omega) pq9)), (show kpF (-1) x8 z6 from (fun e => absurd rfl e))⟩ w (by decide) rfl
    · replace c_4 : x0 ≤ z2 := Int.not_lt.mp (fun h => c_4 ((iI_lt (Int.le_trans (by decide) z2_a) (Int.le_trans z2_b (by decide)) (Int.le_trans (by decide) x0_a) (Int.le_trans x0_b (by decide))).mpr h))
      refine lv_aload_n hx hb dX8_numberAt_24 rfl (lv_at hl 0 rfl) ?_
      refine r_get (v := .int r0) M w 0 8 clX8 rfl (by decide) G176 rfl rfl dX8_numberAt_25 ?_
      refine b_lit (z := z2) hz3.symm ?_
      refine lv_iload_n hx hb dX8_numberAt_28 rfl (lv_at hl 2 rfl) ?_
      refine lv_icmp_le (tgt := 40) hx hb dX8_numberAt_29 (by decide) (fun c_10 => ?_) (fun c_10 => ?_)
      · replace c_10 := (iI_le (Int.le_trans (by decide) z2_a) (Int.le_trans z2_b (by decide)) (Int.le_trans (by decide) x1_a) (Int.le_trans x1_b (by decide))).mp c_10
        refine lv_aload_n hx hb dX8_numberAt_40 rfl (lv_at hl 0 rfl) ?_
        refine r_get (v := .int r0) M w 0 8 clX8 rfl (by decide) G176 rfl rfl dX8_numberAt_41 ?_
        refine b_lit (z := z2) hz3.symm ?_
        exact ret _ (z2, x8, x9) _ _ _ _ _ [0] dX8_numberAt_44 ⟨rfl, z2_a, z2_b, x8_a, x8_b, x9_a, x9_b, (show ∀ x : Tk × Int × Int, gC T x x6 x5 x4 y0 r0 x7 o0 → XV (sNu x0 x1 x) z2 x8 x9 from (cnum_C (by omega) hz3 z2_a z2_b (by omega))), (show kpF z2 x8 x8 from (fun hr => by omega))⟩ w (by decide) rfl
      · replace c_10 : x1 < z2 := Int.not_le.mp (fun h => c_10 ((iI_le (Int.le_trans (by decide) z2_a) (Int.le_trans z2_b (by decide)) (Int.le_trans (by decide) x1_a) (Int.le_trans x1_b (by decide))).mpr h))
        refine lv_aload_n hx hb dX8_numberAt_32 rfl (lv_at hl 0 rfl) ?_
        refine lv_iconst (v := iI 2) hx hb dX8_numberAt_33 (by decide +kernel) ?_
        refine k_I (ce := 0) (sl := 0) (rest := []) (wr := []) (r_V (f := 0) [0] M w V_HookedCity_Tape_90 G710 G711 (c271_X8_fail l D T _ a0 2 a1 x2 x3 x4 x5 x6 o0 y0 r0 x7 x8 x9 (by decide) (by decide) x2_a x2_b x3_a x3_b x4_a x4_b x5_a x5_b x6_a x6_b o0_h x7_a x7_b x8_a x8_b x9_a x9_b) 0 clX8 rfl rfl (by decide) rfl hl.1 rfl (Nat.le_of_ble_eq_true rfl) dX8_numberAt_34 (by decide) (by decide) (by decide) (by decide)) w [0] [] rfl rfl (by decide) (by decide) rfl rfl (fun v u H locs hp w => ?_)
        obtain ⟨z11, z12, z13⟩ := u
        have hv : iI z11 = v := hp.1
        subst hv
        have z11_a : 0 ≤ z11 := hp.2.1
        have z11_b : z11 ≤ 1 := hp.2.2.1
        have z12_a : (-2147483648) ≤ z12 := hp.2.2.2.1
        have z12_b : z12 ≤ 2147483647 := hp.2.2.2.2.1
        have z13_a : 0 ≤ z13 := hp.2.2.2.2.2.1
        have z13_b : z13 ≤ 940 := hp.2.2.2.2.2.2.1
        have pq14 : z12 = 2 := hp.2.2.2.2.2.2.2.1
        have pq15 : z13 = x5 := hp.2.2.2.2.2.2.2.2.1
        have w : WD D A s.heap [(a0, .inr (8, [.ref a1, .int (iI x2), .int (iI x3), .int (iI x4), .int (iI x5), .int (iI x6), (va_rf o0), .long y0, .int r0, .int (iI x7), .int (iI z12), .int (iI z13)]))] H locs := w
        rcases hp.2.2.2.2.2.2.2.2.2 with hr
        · subst hr
          refine lv_pop hx hb dX8_numberAt_37 rfl ?_
          refine lv_iconst (v := iI (-1)) hx hb dX8_numberAt_38 (by decide +kernel) ?_
          exact ret _ ((-1), z12, z13) _ _ _ _ _ [0] dX8_numberAt_39 ⟨rfl, (show (-2147483648) ≤ (-1) from by decide), (show ((-1) : Int) ≤ 2147483647 from by decide), z12_a, z12_b, z13_a, z13_b, (show ∀ x : Tk × Int × Int, gC T x x6 x5 x4 y0 r0 x7 o0 → XV (sNu x0 x1 x) (-1) z12 z13 from (cnum_B (by omega) hz3 z2_a z2_b (by omega) (by omega) pq15)), (show kpF (-1) x8 z12 from (fun e => absurd rfl e))⟩ w (by decide) rfl
  · replace c_1 : ¬ x6 = 4 := fun h => c_1 ((iI_eq (Int.le_trans (by decide) x6_a) (Int.le_trans x6_b (by decide)) (by decide) (by decide)).mpr h)
    refine lv_aload_n hx hb dX8_numberAt_8 rfl (lv_at hl 0 rfl) ?_
    refine lv_iconst (v := iI 1) hx hb dX8_numberAt_9 (by decide +kernel) ?_
    refine k_I (ce := 0) (sl := 0) (rest := []) (wr := []) (r_V (f := 0) [0] M w V_HookedCity_Tape_90 G710 G711 (c271_X8_fail l D T _ a0 1 a1 x2 x3 x4 x5 x6 o0 y0 r0 x7 x8 x9 (by decide) (by decide) x2_a x2_b x3_a x3_b x4_a x4_b x5_a x5_b x6_a x6_b o0_h x7_a x7_b x8_a x8_b x9_a x9_b) 0 clX8 rfl rfl (by decide) rfl hl.1 rfl (Nat.le_of_ble_eq_true rfl) dX8_numberAt_10 (by decide) (by decide) (by decide) (by decide)) w [0] [] rfl rfl (by decide) (by decide) rfl rfl (fun v u H locs hp w => ?_)
    obtain ⟨z16, z17, z18⟩ := u
    have hv : iI z16 = v := hp.1
    subst hv
    have z16_a : 0 ≤ z16 := hp.2.1
    have z16_b : z16 ≤ 1 := hp.2.2.1
    have z17_a : (-2147483648) ≤ z17 := hp.2.2.2.1
    have z17_b : z17 ≤ 2147483647 := hp.2.2.2.2.1
    have z18_a : 0 ≤ z18 := hp.2.2.2.2.2.1
    have z18_b : z18 ≤ 940 := hp.2.2.2.2.2.2.1
    have pq19 : z17 = 1 := hp.2.2.2.2.2.2.2.1
    have pq20 : z18 = x5 := hp.2.2.2.2.2.2.2.2.1
    have w : WD D A s.heap [(a0, .inr (8, [.ref a1, .int (iI x2), .int (iI x3), .int (iI x4), .int (iI x5), .int (iI x6), (va_rf o0), .long y0, .int r0, .int (iI x7), .int (iI z17), .int (iI z18)]))] H locs := w
    rcases hp.2.2.2.2.2.2.2.2.2 with hr
    · subst hr
      refine lv_pop hx hb dX8_numberAt_13 rfl ?_
      refine lv_iconst (v := iI (-1)) hx hb dX8_numberAt_14 (by decide +kernel) ?_
      exact ret _ ((-1), z17, z18) _ _ _ _ _ [0] dX8_numberAt_15 ⟨rfl, (show (-2147483648) ≤ (-1) from by decide), (show ((-1) : Int) ≤ 2147483647 from by decide), z17_a, z17_b, z18_a, z18_b, (show ∀ x : Tk × Int × Int, gC T x x6 x5 x4 y0 r0 x7 o0 → XV (sNu x0 x1 x) (-1) z17 z18 from (cnum_A (by omega) (by omega) pq20)), (show kpF (-1) x8 z17 from (fun e => absurd rfl e))⟩ w (by decide) rfl
