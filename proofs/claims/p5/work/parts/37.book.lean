theorem dX0_readFirst_0 : decode cX0_readFirst 0 = .ok (.aload_n 0, 1) := by decide +kernel
theorem dX0_readFirst_1 : decode cX0_readFirst 1 = .ok (.getfield 21, 3) := by decide +kernel
theorem G265 : Cond.fieldLink "HookedCity$Book" 21 "HookedCity$Book" "first" "[I" ∈ GW := gw_i 265 (by decide +kernel) rfl
theorem dX0_readFirst_4 : decode cX0_readFirst 4 = .ok (.aload_n 0, 1) := by decide +kernel
theorem dX0_readFirst_5 : decode cX0_readFirst 5 = .ok (.getfield 30, 3) := by decide +kernel
theorem G269 : Cond.fieldLink "HookedCity$Book" 30 "HookedCity$Book" "lines" "I" ∈ GW := gw_i 269 (by decide +kernel) rfl
theorem dX0_readFirst_8 : decode cX0_readFirst 8 = .ok (.aload_n 2, 1) := by decide +kernel
theorem dX0_readFirst_9 : decode cX0_readFirst 9 = .ok (.aload_n 1, 1) := by decide +kernel
theorem dX0_readFirst_10 : decode cX0_readFirst 10 = .ok (.invokevirtual 91, 3) := by decide +kernel
theorem G1195 : Cond.methodLink "HookedCity$Book" 91 ⟨"HookedCity$Town", "personAt", "(LHookedCity$Tape;)I"⟩ ∈ GW := gw_i 1195 (by decide +kernel) rfl
theorem V_HookedCity_Book_91 : VL "HookedCity$Book" 91 yX9_personAt cX9_personAt 2 (some .int) 1 := ⟨G745, G1195, G128, by decide +kernel, by decide +kernel, by decide +kernel⟩
theorem dX0_readFirst_13 : decode cX0_readFirst 13 = .ok (.iastore, 1) := by decide +kernel
theorem dX0_readFirst_14 : decode cX0_readFirst 14 = .ok (.aload_n 0, 1) := by decide +kernel
theorem dX0_readFirst_15 : decode cX0_readFirst 15 = .ok (.getfield 21, 3) := by decide +kernel
theorem dX0_readFirst_18 : decode cX0_readFirst 18 = .ok (.aload_n 0, 1) := by decide +kernel
theorem dX0_readFirst_19 : decode cX0_readFirst 19 = .ok (.getfield 30, 3) := by decide +kernel
theorem dX0_readFirst_22 : decode cX0_readFirst 22 = .ok (.iaload, 1) := by decide +kernel
theorem dX0_readFirst_23 : decode cX0_readFirst 23 = .ok (.iconst (-1), 1) := by decide +kernel
theorem dX0_readFirst_24 : decode cX0_readFirst 24 = .ok (.if_icmp .ne 5, 3) := by decide +kernel
theorem dX0_readFirst_29 : decode cX0_readFirst 29 = .ok (.aload_n 1, 1) := by decide +kernel
theorem dX0_readFirst_30 : decode cX0_readFirst 30 = .ok (.invokevirtual 72, 3) := by decide +kernel
theorem G1182 : Cond.methodLink "HookedCity$Book" 72 ⟨"HookedCity$Tape", "step", "()V"⟩ ∈ GW := gw_i 1182 (by decide +kernel) rfl
theorem V_HookedCity_Book_72 : VL "HookedCity$Book" 72 yX8_step cX8_step 1 none 0 := ⟨G589, G1182, G120, by decide +kernel, by decide +kernel, by decide +kernel⟩
theorem dX0_readFirst_33 : decode cX0_readFirst 33 = .ok (.iconst 1, 1) := by decide +kernel
theorem dX0_readFirst_34 : decode cX0_readFirst 34 = .ok (.ireturn, 1) := by decide +kernel
theorem dX0_readFirst_27 : decode cX0_readFirst 27 = .ok (.iconst 0, 1) := by decide +kernel
theorem dX0_readFirst_28 : decode cX0_readFirst 28 = .ok (.ireturn, 1) := by decide +kernel
theorem dX0_readDeed_0 : decode cX0_readDeed 0 = .ok (.aload_n 1, 1) := by decide +kernel
theorem dX0_readDeed_1 : decode cX0_readDeed 1 = .ok (.getfield 52, 3) := by decide +kernel
theorem N171 : Cond.fieldLinkNest "HookedCity$Book" 52 "HookedCity$Tape" "word" "LHookedCity$Word;" "HookedCity" ∈ lw_tbl := List.mem_of_getElem? (i := 171) (by decide +kernel)
theorem dX0_readDeed_4 : decode cX0_readDeed 4 = .ok (.astore_n 3, 1) := by decide +kernel
theorem dX0_readDeed_5 : decode cX0_readDeed 5 = .ok (.aload_n 3, 1) := by decide +kernel
theorem dX0_readDeed_6 : decode cX0_readDeed 6 = .ok (.getstatic 85, 3) := by decide +kernel
theorem G1187 : Cond.fieldLink "HookedCity$Book" 85 "HookedCity$Word" "BUTTONS" "LHookedCity$Word;" ∈ GW := gw_i 1187 (by decide +kernel) rfl
theorem dX0_readDeed_9 : decode cX0_readDeed 9 = .ok (.if_acmp .eq 16, 3) := by decide +kernel
theorem dX0_readDeed_12 : decode cX0_readDeed 12 = .ok (.aload_n 3, 1) := by decide +kernel
theorem dX0_readDeed_13 : decode cX0_readDeed 13 = .ok (.getstatic 88, 3) := by decide +kernel
theorem G1189 : Cond.fieldLink "HookedCity$Book" 88 "HookedCity$Word" "LOOSES" "LHookedCity$Word;" ∈ GW := gw_i 1189 (by decide +kernel) rfl
theorem dX0_readDeed_16 : decode cX0_readDeed 16 = .ok (.if_acmp .eq 9, 3) := by decide +kernel
theorem dX0_readDeed_19 : decode cX0_readDeed 19 = .ok (.aload_n 1, 1) := by decide +kernel
theorem dX0_readDeed_20 : decode cX0_readDeed 20 = .ok (.iconst 1, 1) := by decide +kernel
theorem dX0_readDeed_21 : decode cX0_readDeed 21 = .ok (.invokevirtual 68, 3) := by decide +kernel
theorem G1181 : Cond.methodLink "HookedCity$Book" 68 ⟨"HookedCity$Tape", "fail", "(I)Z"⟩ ∈ GW := gw_i 1181 (by decide +kernel) rfl
theorem V_HookedCity_Book_68 : VL "HookedCity$Book" 68 yX8_fail cX8_fail 2 (some .boolean) 1 := ⟨G712, G1181, G120, by decide +kernel, by decide +kernel, by decide +kernel⟩
theorem dX0_readDeed_24 : decode cX0_readDeed 24 = .ok (.ireturn, 1) := by decide +kernel
theorem dX0_readDeed_25 : decode cX0_readDeed 25 = .ok (.aload_n 0, 1) := by decide +kernel
theorem dX0_readDeed_26 : decode cX0_readDeed 26 = .ok (.getfield 13, 3) := by decide +kernel
theorem G263 : Cond.fieldLink "HookedCity$Book" 13 "HookedCity$Book" "acts" "[LHookedCity$Word;" ∈ GW := gw_i 263 (by decide +kernel) rfl
theorem dX0_readDeed_29 : decode cX0_readDeed 29 = .ok (.aload_n 0, 1) := by decide +kernel
theorem dX0_readDeed_30 : decode cX0_readDeed 30 = .ok (.getfield 30, 3) := by decide +kernel
theorem dX0_readDeed_33 : decode cX0_readDeed 33 = .ok (.aload_n 3, 1) := by decide +kernel
theorem dX0_readDeed_34 : decode cX0_readDeed 34 = .ok (.aastore, 1) := by decide +kernel
theorem dX0_readDeed_35 : decode cX0_readDeed 35 = .ok (.aload_n 1, 1) := by decide +kernel
theorem dX0_readDeed_36 : decode cX0_readDeed 36 = .ok (.invokevirtual 72, 3) := by decide +kernel
theorem dX0_readDeed_39 : decode cX0_readDeed 39 = .ok (.aload_n 0, 1) := by decide +kernel
theorem dX0_readDeed_40 : decode cX0_readDeed 40 = .ok (.aload_n 1, 1) := by decide +kernel
theorem dX0_readDeed_41 : decode cX0_readDeed 41 = .ok (.aload_n 2, 1) := by decide +kernel
theorem dX0_readDeed_42 : decode cX0_readDeed 42 = .ok (.invokevirtual 82, 3) := by decide +kernel
theorem G1194 : Cond.code ⟨"HookedCity$Book", "readFirst", "(LHookedCity$Tape;LHookedCity$Town;)Z"⟩ prog_2_method_5_code 3 (some .boolean) ∈ GW := gw_i 1194 (by decide +kernel) rfl
theorem G1191 : Cond.methodLink "HookedCity$Book" 82 ⟨"HookedCity$Book", "readFirst", "(LHookedCity$Tape;LHookedCity$Town;)Z"⟩ ∈ GW := gw_i 1191 (by decide +kernel) rfl
theorem G122 : Cond.initialized "HookedCity$Book" ∈ GW := gw_i 122 (by decide +kernel) rfl
theorem V_HookedCity_Book_82 : VL "HookedCity$Book" 82 yX0_readFirst cX0_readFirst 3 (some .boolean) 2 := ⟨G1194, G1191, G122, by decide +kernel, by decide +kernel, by decide +kernel⟩
theorem G1193 : Cond.instanceMethod ⟨"HookedCity$Book", "readFirst", "(LHookedCity$Tape;LHookedCity$Town;)Z"⟩ ∈ GW := gw_i 1193 (by decide +kernel) rfl
theorem G32 : Cond.selects "HookedCity$Book" ⟨"HookedCity$Book", "readFirst", "(LHookedCity$Tape;LHookedCity$Town;)Z"⟩ ⟨"HookedCity$Book", "readFirst", "(LHookedCity$Tape;LHookedCity$Town;)Z"⟩ ∈ GW := gw_i 32 (by decide +kernel) rfl
theorem dX0_readDeed_45 : decode cX0_readDeed 45 = .ok (.ifCond .ne 5, 3) := by decide +kernel
theorem dX0_readDeed_50 : decode cX0_readDeed 50 = .ok (.aload_n 3, 1) := by decide +kernel
theorem dX0_readDeed_51 : decode cX0_readDeed 51 = .ok (.getstatic 88, 3) := by decide +kernel
theorem dX0_readDeed_54 : decode cX0_readDeed 54 = .ok (.if_acmp .ne 5, 3) := by decide +kernel
theorem dX0_readDeed_59 : decode cX0_readDeed 59 = .ok (.aload_n 0, 1) := by decide +kernel
theorem dX0_readDeed_60 : decode cX0_readDeed 60 = .ok (.getfield 24, 3) := by decide +kernel
theorem G266 : Cond.fieldLink "HookedCity$Book" 24 "HookedCity$Book" "second" "[I" ∈ GW := gw_i 266 (by decide +kernel) rfl
theorem dX0_readDeed_63 : decode cX0_readDeed 63 = .ok (.aload_n 0, 1) := by decide +kernel
theorem dX0_readDeed_64 : decode cX0_readDeed 64 = .ok (.getfield 30, 3) := by decide +kernel
theorem dX0_readDeed_67 : decode cX0_readDeed 67 = .ok (.aload_n 2, 1) := by decide +kernel
theorem dX0_readDeed_68 : decode cX0_readDeed 68 = .ok (.aload_n 1, 1) := by decide +kernel
theorem dX0_readDeed_69 : decode cX0_readDeed 69 = .ok (.invokevirtual 91, 3) := by decide +kernel
theorem dX0_readDeed_72 : decode cX0_readDeed 72 = .ok (.iastore, 1) := by decide +kernel
theorem dX0_readDeed_73 : decode cX0_readDeed 73 = .ok (.aload_n 0, 1) := by decide +kernel
theorem dX0_readDeed_74 : decode cX0_readDeed 74 = .ok (.getfield 24, 3) := by decide +kernel
theorem dX0_readDeed_77 : decode cX0_readDeed 77 = .ok (.aload_n 0, 1) := by decide +kernel
theorem dX0_readDeed_78 : decode cX0_readDeed 78 = .ok (.getfield 30, 3) := by decide +kernel
theorem dX0_readDeed_81 : decode cX0_readDeed 81 = .ok (.iaload, 1) := by decide +kernel
theorem dX0_readDeed_82 : decode cX0_readDeed 82 = .ok (.iconst (-1), 1) := by decide +kernel
theorem dX0_readDeed_83 : decode cX0_readDeed 83 = .ok (.if_icmp .ne 5, 3) := by decide +kernel
theorem dX0_readDeed_88 : decode cX0_readDeed 88 = .ok (.aload_n 1, 1) := by decide +kernel
theorem dX0_readDeed_89 : decode cX0_readDeed 89 = .ok (.invokevirtual 72, 3) := by decide +kernel
theorem dX0_readDeed_92 : decode cX0_readDeed 92 = .ok (.iconst 1, 1) := by decide +kernel
theorem dX0_readDeed_93 : decode cX0_readDeed 93 = .ok (.ireturn, 1) := by decide +kernel
theorem dX0_readDeed_86 : decode cX0_readDeed 86 = .ok (.iconst 0, 1) := by decide +kernel
theorem dX0_readDeed_87 : decode cX0_readDeed 87 = .ok (.ireturn, 1) := by decide +kernel
theorem dX0_readDeed_57 : decode cX0_readDeed 57 = .ok (.iconst 1, 1) := by decide +kernel
theorem dX0_readDeed_58 : decode cX0_readDeed 58 = .ok (.ireturn, 1) := by decide +kernel
theorem dX0_readDeed_48 : decode cX0_readDeed 48 = .ok (.iconst 0, 1) := by decide +kernel
theorem dX0_readDeed_49 : decode cX0_readDeed 49 = .ok (.ireturn, 1) := by decide +kernel
theorem dX0_readDays_0 : decode cX0_readDays 0 = .ok (.aload_n 0, 1) := by decide +kernel
theorem dX0_readDays_1 : decode cX0_readDays 1 = .ok (.getfield 21, 3) := by decide +kernel
theorem dX0_readDays_4 : decode cX0_readDays 4 = .ok (.aload_n 0, 1) := by decide +kernel
theorem dX0_readDays_5 : decode cX0_readDays 5 = .ok (.getfield 30, 3) := by decide +kernel
theorem dX0_readDays_8 : decode cX0_readDays 8 = .ok (.aload_n 1, 1) := by decide +kernel
theorem dX0_readDays_9 : decode cX0_readDays 9 = .ok (.iconst 1, 1) := by decide +kernel
theorem dX0_readDays_10 : decode cX0_readDays 10 = .ok (.bipush 60, 2) := by decide +kernel
theorem dX0_readDays_12 : decode cX0_readDays 12 = .ok (.invokevirtual 94, 3) := by decide +kernel
theorem G1200 : Cond.methodLink "HookedCity$Book" 94 ⟨"HookedCity$Tape", "numberAt", "(II)I"⟩ ∈ GW := gw_i 1200 (by decide +kernel) rfl
theorem V_HookedCity_Book_94 : VL "HookedCity$Book" 94 yX8_numberAt cX8_numberAt 3 (some .int) 2 := ⟨G728, G1200, G120, by decide +kernel, by decide +kernel, by decide +kernel⟩
theorem dX0_readDays_15 : decode cX0_readDays 15 = .ok (.iastore, 1) := by decide +kernel
theorem dX0_readDays_16 : decode cX0_readDays 16 = .ok (.aload_n 0, 1) := by decide +kernel
theorem dX0_readDays_17 : decode cX0_readDays 17 = .ok (.getfield 21, 3) := by decide +kernel
theorem dX0_readDays_20 : decode cX0_readDays 20 = .ok (.aload_n 0, 1) := by decide +kernel
theorem dX0_readDays_21 : decode cX0_readDays 21 = .ok (.getfield 30, 3) := by decide +kernel
theorem dX0_readDays_24 : decode cX0_readDays 24 = .ok (.iaload, 1) := by decide +kernel
theorem dX0_readDays_25 : decode cX0_readDays 25 = .ok (.iconst (-1), 1) := by decide +kernel
theorem dX0_readDays_26 : decode cX0_readDays 26 = .ok (.if_icmp .ne 5, 3) := by decide +kernel
theorem dX0_readDays_31 : decode cX0_readDays 31 = .ok (.aload_n 1, 1) := by decide +kernel
theorem dX0_readDays_32 : decode cX0_readDays 32 = .ok (.invokevirtual 72, 3) := by decide +kernel
theorem dX0_readDays_35 : decode cX0_readDays 35 = .ok (.iconst 1, 1) := by decide +kernel
theorem dX0_readDays_36 : decode cX0_readDays 36 = .ok (.ireturn, 1) := by decide +kernel
theorem dX0_readDays_29 : decode cX0_readDays 29 = .ok (.iconst 0, 1) := by decide +kernel
theorem dX0_readDays_30 : decode cX0_readDays 30 = .ok (.ireturn, 1) := by decide +kernel
theorem dX0_readLine_0 : decode cX0_readLine 0 = .ok (.aload_n 1, 1) := by decide +kernel
theorem dX0_readLine_1 : decode cX0_readLine 1 = .ok (.getfield 52, 3) := by decide +kernel
theorem dX0_readLine_4 : decode cX0_readLine 4 = .ok (.astore_n 3, 1) := by decide +kernel
theorem dX0_readLine_5 : decode cX0_readLine 5 = .ok (.aload_n 3, 1) := by decide +kernel
theorem dX0_readLine_6 : decode cX0_readLine 6 = .ok (.getstatic 56, 3) := by decide +kernel
theorem G1173 : Cond.fieldLink "HookedCity$Book" 56 "HookedCity$Word" "MEND" "LHookedCity$Word;" ∈ GW := gw_i 1173 (by decide +kernel) rfl
theorem dX0_readLine_9 : decode cX0_readLine 9 = .ok (.if_acmp .eq 14, 3) := by decide +kernel
theorem dX0_readLine_12 : decode cX0_readLine 12 = .ok (.aload_n 3, 1) := by decide +kernel
theorem dX0_readLine_13 : decode cX0_readLine 13 = .ok (.getstatic 59, 3) := by decide +kernel
theorem G1175 : Cond.fieldLink "HookedCity$Book" 59 "HookedCity$Word" "DAY" "LHookedCity$Word;" ∈ GW := gw_i 1175 (by decide +kernel) rfl
theorem dX0_readLine_16 : decode cX0_readLine 16 = .ok (.if_acmp .eq 7, 3) := by decide +kernel
theorem dX0_readLine_19 : decode cX0_readLine 19 = .ok (.iconst 1, 1) := by decide +kernel
theorem dX0_readLine_20 : decode cX0_readLine 20 = .ok (.goto 4, 3) := by decide +kernel
theorem dX0_readLine_24 : decode cX0_readLine 24 = .ok (.istore 4, 2) := by decide +kernel
theorem dX0_readLine_26 : decode cX0_readLine 26 = .ok (.iload 4, 2) := by decide +kernel
theorem dX0_readLine_28 : decode cX0_readLine 28 = .ok (.ifCond .eq 11, 3) := by decide +kernel
theorem dX0_readLine_31 : decode cX0_readLine 31 = .ok (.aload_n 2, 1) := by decide +kernel
theorem dX0_readLine_32 : decode cX0_readLine 32 = .ok (.aload_n 1, 1) := by decide +kernel
theorem dX0_readLine_33 : decode cX0_readLine 33 = .ok (.invokevirtual 62, 3) := by decide +kernel
theorem G1180 : Cond.code ⟨"HookedCity$Town", "maidAt", "(LHookedCity$Tape;)I"⟩ prog_11_method_17_code 2 (some .int) ∈ GW := gw_i 1180 (by decide +kernel) rfl
theorem G1177 : Cond.methodLink "HookedCity$Book" 62 ⟨"HookedCity$Town", "maidAt", "(LHookedCity$Tape;)I"⟩ ∈ GW := gw_i 1177 (by decide +kernel) rfl
theorem V_HookedCity_Book_62 : VL "HookedCity$Book" 62 yX9_maidAt cX9_maidAt 2 (some .int) 1 := ⟨G1180, G1177, G128, by decide +kernel, by decide +kernel, by decide +kernel⟩
theorem G1178 : Cond.instanceMethod ⟨"HookedCity$Town", "maidAt", "(LHookedCity$Tape;)I"⟩ ∈ GW := gw_i 1178 (by decide +kernel) rfl
theorem G1179 : Cond.selects "HookedCity$Town" ⟨"HookedCity$Town", "maidAt", "(LHookedCity$Tape;)I"⟩ ⟨"HookedCity$Town", "maidAt", "(LHookedCity$Tape;)I"⟩ ∈ GW := gw_i 1179 (by decide +kernel) rfl
theorem dX0_readLine_36 : decode cX0_readLine 36 = .ok (.goto 4, 3) := by decide +kernel
theorem dX0_readLine_40 : decode cX0_readLine 40 = .ok (.istore 5, 2) := by decide +kernel
theorem dX0_readLine_42 : decode cX0_readLine 42 = .ok (.iload 4, 2) := by decide +kernel
theorem dX0_readLine_44 : decode cX0_readLine 44 = .ok (.ifCond .eq 11, 3) := by decide +kernel
theorem dX0_readLine_47 : decode cX0_readLine 47 = .ok (.iload 5, 2) := by decide +kernel
theorem dX0_readLine_49 : decode cX0_readLine 49 = .ok (.iconst (-1), 1) := by decide +kernel
theorem dX0_readLine_50 : decode cX0_readLine 50 = .ok (.if_icmp .ne 5, 3) := by decide +kernel
theorem dX0_readLine_55 : decode cX0_readLine 55 = .ok (.aload_n 0, 1) := by decide +kernel
theorem dX0_readLine_56 : decode cX0_readLine 56 = .ok (.getfield 30, 3) := by decide +kernel
theorem dX0_readLine_59 : decode cX0_readLine 59 = .ok (.bipush 40, 2) := by decide +kernel
theorem dX0_readLine_61 : decode cX0_readLine 61 = .ok (.if_icmp .lt 9, 3) := by decide +kernel
theorem dX0_readLine_70 : decode cX0_readLine 70 = .ok (.aload_n 1, 1) := by decide +kernel
theorem dX0_readLine_71 : decode cX0_readLine 71 = .ok (.invokevirtual 72, 3) := by decide +kernel
theorem dX0_readLine_74 : decode cX0_readLine 74 = .ok (.aload_n 0, 1) := by decide +kernel
theorem dX0_readLine_75 : decode cX0_readLine 75 = .ok (.getfield 17, 3) := by decide +kernel
theorem G264 : Cond.fieldLink "HookedCity$Book" 17 "HookedCity$Book" "whose" "[I" ∈ GW := gw_i 264 (by decide +kernel) rfl
theorem dX0_readLine_78 : decode cX0_readLine 78 = .ok (.aload_n 0, 1) := by decide +kernel
theorem dX0_readLine_79 : decode cX0_readLine 79 = .ok (.getfield 30, 3) := by decide +kernel
theorem dX0_readLine_82 : decode cX0_readLine 82 = .ok (.iload 5, 2) := by decide +kernel
theorem dX0_readLine_84 : decode cX0_readLine 84 = .ok (.iastore, 1) := by decide +kernel
theorem dX0_readLine_85 : decode cX0_readLine 85 = .ok (.aload_n 0, 1) := by decide +kernel
theorem dX0_readLine_86 : decode cX0_readLine 86 = .ok (.getfield 13, 3) := by decide +kernel
theorem dX0_readLine_89 : decode cX0_readLine 89 = .ok (.aload_n 0, 1) := by decide +kernel
theorem dX0_readLine_90 : decode cX0_readLine 90 = .ok (.getfield 30, 3) := by decide +kernel
theorem dX0_readLine_93 : decode cX0_readLine 93 = .ok (.aload_n 3, 1) := by decide +kernel
theorem dX0_readLine_94 : decode cX0_readLine 94 = .ok (.aastore, 1) := by decide +kernel
theorem dX0_readLine_95 : decode cX0_readLine 95 = .ok (.iload 4, 2) := by decide +kernel
theorem dX0_readLine_97 : decode cX0_readLine 97 = .ok (.ifCond .eq 10, 3) := by decide +kernel
theorem dX0_readLine_100 : decode cX0_readLine 100 = .ok (.aload_n 0, 1) := by decide +kernel
theorem dX0_readLine_101 : decode cX0_readLine 101 = .ok (.aload_n 1, 1) := by decide +kernel
theorem dX0_readLine_102 : decode cX0_readLine 102 = .ok (.aload_n 2, 1) := by decide +kernel
theorem dX0_readLine_103 : decode cX0_readLine 103 = .ok (.invokevirtual 75, 3) := by decide +kernel
theorem G1186 : Cond.code ⟨"HookedCity$Book", "readDeed", "(LHookedCity$Tape;LHookedCity$Town;)Z"⟩ prog_2_method_4_code 4 (some .boolean) ∈ GW := gw_i 1186 (by decide +kernel) rfl
theorem G1183 : Cond.methodLink "HookedCity$Book" 75 ⟨"HookedCity$Book", "readDeed", "(LHookedCity$Tape;LHookedCity$Town;)Z"⟩ ∈ GW := gw_i 1183 (by decide +kernel) rfl
theorem V_HookedCity_Book_75 : VL "HookedCity$Book" 75 yX0_readDeed cX0_readDeed 4 (some .boolean) 2 := ⟨G1186, G1183, G122, by decide +kernel, by decide +kernel, by decide +kernel⟩
theorem G1185 : Cond.instanceMethod ⟨"HookedCity$Book", "readDeed", "(LHookedCity$Tape;LHookedCity$Town;)Z"⟩ ∈ GW := gw_i 1185 (by decide +kernel) rfl
theorem G31 : Cond.selects "HookedCity$Book" ⟨"HookedCity$Book", "readDeed", "(LHookedCity$Tape;LHookedCity$Town;)Z"⟩ ⟨"HookedCity$Book", "readDeed", "(LHookedCity$Tape;LHookedCity$Town;)Z"⟩ ∈ GW := gw_i 31 (by decide +kernel) rfl
theorem dX0_readLine_106 : decode cX0_readLine 106 = .ok (.ireturn, 1) := by decide +kernel
theorem dX0_readLine_64 : decode cX0_readLine 64 = .ok (.aload_n 1, 1) := by decide +kernel
theorem dX0_readLine_65 : decode cX0_readLine 65 = .ok (.iconst 4, 1) := by decide +kernel
theorem dX0_readLine_66 : decode cX0_readLine 66 = .ok (.invokevirtual 68, 3) := by decide +kernel
theorem dX0_readLine_69 : decode cX0_readLine 69 = .ok (.ireturn, 1) := by decide +kernel
theorem dX0_readLine_53 : decode cX0_readLine 53 = .ok (.iconst 0, 1) := by decide +kernel
theorem dX0_readLine_54 : decode cX0_readLine 54 = .ok (.ireturn, 1) := by decide +kernel
theorem dX0_readLine_23 : decode cX0_readLine 23 = .ok (.iconst 0, 1) := by decide +kernel
theorem dX0_readLine_39 : decode cX0_readLine 39 = .ok (.iconst (-1), 1) := by decide +kernel
theorem dX0_readLine_107 : decode cX0_readLine 107 = .ok (.aload_n 3, 1) := by decide +kernel
theorem dX0_readLine_108 : decode cX0_readLine 108 = .ok (.getstatic 59, 3) := by decide +kernel
theorem dX0_readLine_111 : decode cX0_readLine 111 = .ok (.if_acmp .ne 11, 3) := by decide +kernel
theorem dX0_readLine_122 : decode cX0_readLine 122 = .ok (.aload_n 0, 1) := by decide +kernel
theorem dX0_readLine_123 : decode cX0_readLine 123 = .ok (.aload_n 1, 1) := by decide +kernel
theorem dX0_readLine_124 : decode cX0_readLine 124 = .ok (.aload_n 2, 1) := by decide +kernel
theorem dX0_readLine_125 : decode cX0_readLine 125 = .ok (.invokevirtual 82, 3) := by decide +kernel
theorem dX0_readLine_128 : decode cX0_readLine 128 = .ok (.ireturn, 1) := by decide +kernel
theorem dX0_readLine_114 : decode cX0_readLine 114 = .ok (.aload_n 0, 1) := by decide +kernel
theorem dX0_readLine_115 : decode cX0_readLine 115 = .ok (.aload_n 1, 1) := by decide +kernel
theorem dX0_readLine_116 : decode cX0_readLine 116 = .ok (.invokevirtual 78, 3) := by decide +kernel
theorem G1199 : Cond.code ⟨"HookedCity$Book", "readDays", "(LHookedCity$Tape;)Z"⟩ prog_2_method_6_code 2 (some .boolean) ∈ GW := gw_i 1199 (by decide +kernel) rfl
theorem G1196 : Cond.methodLink "HookedCity$Book" 78 ⟨"HookedCity$Book", "readDays", "(LHookedCity$Tape;)Z"⟩ ∈ GW := gw_i 1196 (by decide +kernel) rfl
theorem V_HookedCity_Book_78 : VL "HookedCity$Book" 78 yX0_readDays cX0_readDays 2 (some .boolean) 1 := ⟨G1199, G1196, G122, by decide +kernel, by decide +kernel, by decide +kernel⟩
theorem G1198 : Cond.instanceMethod ⟨"HookedCity$Book", "readDays", "(LHookedCity$Tape;)Z"⟩ ∈ GW := gw_i 1198 (by decide +kernel) rfl
theorem G33 : Cond.selects "HookedCity$Book" ⟨"HookedCity$Book", "readDays", "(LHookedCity$Tape;)Z"⟩ ⟨"HookedCity$Book", "readDays", "(LHookedCity$Tape;)Z"⟩ ∈ GW := gw_i 33 (by decide +kernel) rfl
theorem dX0_readLine_119 : decode cX0_readLine 119 = .ok (.goto 9, 3) := by decide +kernel
theorem dX0_read_0 : decode cX0_read 0 = .ok (.aload_n 1, 1) := by decide +kernel
theorem dX0_read_1 : decode cX0_read 1 = .ok (.sipush 400, 3) := by decide +kernel
theorem dX0_read_4 : decode cX0_read 4 = .ok (.invokevirtual 34, 3) := by decide +kernel
theorem G1167 : Cond.methodLink "HookedCity$Book" 34 ⟨"HookedCity$Tape", "open", "(I)V"⟩ ∈ GW := gw_i 1167 (by decide +kernel) rfl
theorem V_HookedCity_Book_34 : VL "HookedCity$Book" 34 yX8_open cX8_open 2 none 1 := ⟨G585, G1167, G120, by decide +kernel, by decide +kernel, by decide +kernel⟩
theorem dX0_read_7 : decode cX0_read 7 = .ok (.aload_n 0, 1) := by decide +kernel
theorem dX0_read_8 : decode cX0_read 8 = .ok (.iconst 0, 1) := by decide +kernel
theorem dX0_read_9 : decode cX0_read 9 = .ok (.putfield 30, 3) := by decide +kernel
theorem dX0_read_12 : decode cX0_read 12 = .ok (.aload_n 0, 1) := by decide +kernel
theorem dX0_read_13 : decode cX0_read 13 = .ok (.getfield 30, 3) := by decide +kernel
theorem dX0_read_16 : decode cX0_read 16 = .ok (.bipush 40, 2) := by decide +kernel
theorem dX0_read_18 : decode cX0_read 18 = .ok (.if_icmp .gt 43, 3) := by decide +kernel
theorem dX0_read_21 : decode cX0_read 21 = .ok (.aload_n 1, 1) := by decide +kernel
theorem dX0_read_22 : decode cX0_read 22 = .ok (.invokevirtual 40, 3) := by decide +kernel
theorem G1168 : Cond.methodLink "HookedCity$Book" 40 ⟨"HookedCity$Tape", "atEnd", "()Z"⟩ ∈ GW := gw_i 1168 (by decide +kernel) rfl
theorem V_HookedCity_Book_40 : VL "HookedCity$Book" 40 yX8_atEnd cX8_atEnd 1 (some .boolean) 0 := ⟨G698, G1168, G120, by decide +kernel, by decide +kernel, by decide +kernel⟩
theorem dX0_read_25 : decode cX0_read 25 = .ok (.ifCond .ne 36, 3) := by decide +kernel
theorem dX0_read_28 : decode cX0_read 28 = .ok (.aload_n 0, 1) := by decide +kernel
theorem dX0_read_29 : decode cX0_read 29 = .ok (.aload_n 1, 1) := by decide +kernel
theorem dX0_read_30 : decode cX0_read 30 = .ok (.aload_n 2, 1) := by decide +kernel
theorem dX0_read_31 : decode cX0_read 31 = .ok (.invokevirtual 44, 3) := by decide +kernel
theorem G1172 : Cond.code ⟨"HookedCity$Book", "readLine", "(LHookedCity$Tape;LHookedCity$Town;)Z"⟩ prog_2_method_3_code 6 (some .boolean) ∈ GW := gw_i 1172 (by decide +kernel) rfl
theorem G1169 : Cond.methodLink "HookedCity$Book" 44 ⟨"HookedCity$Book", "readLine", "(LHookedCity$Tape;LHookedCity$Town;)Z"⟩ ∈ GW := gw_i 1169 (by decide +kernel) rfl
theorem V_HookedCity_Book_44 : VL "HookedCity$Book" 44 yX0_readLine cX0_readLine 6 (some .boolean) 2 := ⟨G1172, G1169, G122, by decide +kernel, by decide +kernel, by decide +kernel⟩
theorem G1171 : Cond.instanceMethod ⟨"HookedCity$Book", "readLine", "(LHookedCity$Tape;LHookedCity$Town;)Z"⟩ ∈ GW := gw_i 1171 (by decide +kernel) rfl
theorem G30 : Cond.selects "HookedCity$Book" ⟨"HookedCity$Book", "readLine", "(LHookedCity$Tape;LHookedCity$Town;)Z"⟩ ⟨"HookedCity$Book", "readLine", "(LHookedCity$Tape;LHookedCity$Town;)Z"⟩ ∈ GW := gw_i 30 (by decide +kernel) rfl
theorem dX0_read_34 : decode cX0_read 34 = .ok (.ifCond .eq 12, 3) := by decide +kernel
theorem dX0_read_46 : decode cX0_read 46 = .ok (.iconst 0, 1) := by decide +kernel
theorem dX0_read_47 : decode cX0_read 47 = .ok (.ireturn, 1) := by decide +kernel
theorem dX0_read_37 : decode cX0_read 37 = .ok (.aload_n 1, 1) := by decide +kernel
theorem dX0_read_38 : decode cX0_read 38 = .ok (.bipush 59, 2) := by decide +kernel
theorem dX0_read_40 : decode cX0_read 40 = .ok (.invokevirtual 48, 3) := by decide +kernel
theorem G1201 : Cond.methodLink "HookedCity$Book" 48 ⟨"HookedCity$Tape", "pass", "(C)Z"⟩ ∈ GW := gw_i 1201 (by decide +kernel) rfl
theorem V_HookedCity_Book_48 : VL "HookedCity$Book" 48 yX8_pass cX8_pass 2 (some .boolean) 1 := ⟨G781, G1201, G120, by decide +kernel, by decide +kernel, by decide +kernel⟩
theorem dX0_read_43 : decode cX0_read 43 = .ok (.ifCond .ne 5, 3) := by decide +kernel
theorem dX0_read_48 : decode cX0_read 48 = .ok (.aload_n 0, 1) := by decide +kernel
theorem dX0_read_49 : decode cX0_read 49 = .ok (.dup, 1) := by decide +kernel
theorem dX0_read_50 : decode cX0_read 50 = .ok (.getfield 30, 3) := by decide +kernel
theorem dX0_read_53 : decode cX0_read 53 = .ok (.iconst 1, 1) := by decide +kernel
theorem dX0_read_54 : decode cX0_read 54 = .ok (.iadd, 1) := by decide +kernel
theorem dX0_read_55 : decode cX0_read 55 = .ok (.putfield 30, 3) := by decide +kernel
theorem dX0_read_58 : decode cX0_read 58 = .ok (.goto (-46), 3) := by decide +kernel
theorem dX0_read_61 : decode cX0_read 61 = .ok (.iconst 1, 1) := by decide +kernel
theorem dX0_read_62 : decode cX0_read 62 = .ok (.ireturn, 1) := by decide +kernel
theorem dX0_liveButtons_0 : decode cX0_liveButtons 0 = .ok (.aload_n 2, 1) := by decide +kernel
theorem dX0_liveButtons_1 : decode cX0_liveButtons 1 = .ok (.aload_n 1, 1) := by decide +kernel
theorem dX0_liveButtons_2 : decode cX0_liveButtons 2 = .ok (.aload_n 0, 1) := by decide +kernel
theorem dX0_liveButtons_3 : decode cX0_liveButtons 3 = .ok (.getfield 17, 3) := by decide +kernel
theorem dX0_liveButtons_6 : decode cX0_liveButtons 6 = .ok (.iload_n 3, 1) := by decide +kernel
theorem dX0_liveButtons_7 : decode cX0_liveButtons 7 = .ok (.iaload, 1) := by decide +kernel
theorem dX0_liveButtons_8 : decode cX0_liveButtons 8 = .ok (.aload_n 0, 1) := by decide +kernel
theorem dX0_liveButtons_9 : decode cX0_liveButtons 9 = .ok (.getfield 21, 3) := by decide +kernel
theorem dX0_liveButtons_12 : decode cX0_liveButtons 12 = .ok (.iload_n 3, 1) := by decide +kernel
theorem dX0_liveButtons_13 : decode cX0_liveButtons 13 = .ok (.iaload, 1) := by decide +kernel
theorem dX0_liveButtons_14 : decode cX0_liveButtons 14 = .ok (.aload_n 0, 1) := by decide +kernel
theorem dX0_liveButtons_15 : decode cX0_liveButtons 15 = .ok (.getfield 24, 3) := by decide +kernel
theorem dX0_liveButtons_18 : decode cX0_liveButtons 18 = .ok (.iload_n 3, 1) := by decide +kernel
theorem dX0_liveButtons_19 : decode cX0_liveButtons 19 = .ok (.iaload, 1) := by decide +kernel
theorem dX0_liveButtons_20 : decode cX0_liveButtons 20 = .ok (.invokevirtual 133, 3) := by decide +kernel
theorem G1214 : Cond.methodLink "HookedCity$Book" 133 ⟨"HookedCity$State", "whyNotDoUp", "(LHookedCity$Town;III)I"⟩ ∈ GW := gw_i 1214 (by decide +kernel) rfl
theorem V_HookedCity_Book_133 : VL "HookedCity$Book" 133 yX7_whyNotDoUp cX7_whyNotDoUp 5 (some .int) 4 := ⟨G846, G1214, G121, by decide +kernel, by decide +kernel, by decide +kernel⟩
theorem dX0_liveButtons_23 : decode cX0_liveButtons 23 = .ok (.istore 4, 2) := by decide +kernel
theorem dX0_liveButtons_25 : decode cX0_liveButtons 25 = .ok (.iload 4, 2) := by decide +kernel
theorem dX0_liveButtons_27 : decode cX0_liveButtons 27 = .ok (.ifCond .ne 25, 3) := by decide +kernel
theorem dX0_liveButtons_52 : decode cX0_liveButtons 52 = .ok (.iload 4, 2) := by decide +kernel
theorem dX0_liveButtons_54 : decode cX0_liveButtons 54 = .ok (.ireturn, 1) := by decide +kernel
theorem dX0_liveButtons_30 : decode cX0_liveButtons 30 = .ok (.aload_n 2, 1) := by decide +kernel
theorem dX0_liveButtons_31 : decode cX0_liveButtons 31 = .ok (.aload_n 0, 1) := by decide +kernel
theorem dX0_liveButtons_32 : decode cX0_liveButtons 32 = .ok (.getfield 17, 3) := by decide +kernel
theorem dX0_liveButtons_35 : decode cX0_liveButtons 35 = .ok (.iload_n 3, 1) := by decide +kernel
theorem dX0_liveButtons_36 : decode cX0_liveButtons 36 = .ok (.iaload, 1) := by decide +kernel
theorem dX0_liveButtons_37 : decode cX0_liveButtons 37 = .ok (.aload_n 0, 1) := by decide +kernel
theorem dX0_liveButtons_38 : decode cX0_liveButtons 38 = .ok (.getfield 21, 3) := by decide +kernel
theorem dX0_liveButtons_41 : decode cX0_liveButtons 41 = .ok (.iload_n 3, 1) := by decide +kernel
theorem dX0_liveButtons_42 : decode cX0_liveButtons 42 = .ok (.iaload, 1) := by decide +kernel
theorem dX0_liveButtons_43 : decode cX0_liveButtons 43 = .ok (.aload_n 0, 1) := by decide +kernel
theorem dX0_liveButtons_44 : decode cX0_liveButtons 44 = .ok (.getfield 24, 3) := by decide +kernel
theorem dX0_liveButtons_47 : decode cX0_liveButtons 47 = .ok (.iload_n 3, 1) := by decide +kernel
theorem dX0_liveButtons_48 : decode cX0_liveButtons 48 = .ok (.iaload, 1) := by decide +kernel
theorem dX0_liveButtons_49 : decode cX0_liveButtons 49 = .ok (.invokevirtual 137, 3) := by decide +kernel
theorem G1215 : Cond.methodLink "HookedCity$Book" 137 ⟨"HookedCity$State", "doUp", "(III)V"⟩ ∈ GW := gw_i 1215 (by decide +kernel) rfl
theorem V_HookedCity_Book_137 : VL "HookedCity$Book" 137 yX7_doUp cX7_doUp 4 none 3 := ⟨G871, G1215, G121, by decide +kernel, by decide +kernel, by decide +kernel⟩
theorem dX0_liveLine_0 : decode cX0_liveLine 0 = .ok (.aload_n 0, 1) := by decide +kernel
theorem dX0_liveLine_1 : decode cX0_liveLine 1 = .ok (.getfield 13, 3) := by decide +kernel
theorem dX0_liveLine_4 : decode cX0_liveLine 4 = .ok (.iload_n 3, 1) := by decide +kernel
theorem dX0_liveLine_5 : decode cX0_liveLine 5 = .ok (.aaload, 1) := by decide +kernel
theorem dX0_liveLine_6 : decode cX0_liveLine 6 = .ok (.astore 4, 2) := by decide +kernel
theorem dX0_liveLine_8 : decode cX0_liveLine 8 = .ok (.aload_n 0, 1) := by decide +kernel
theorem dX0_liveLine_9 : decode cX0_liveLine 9 = .ok (.getfield 17, 3) := by decide +kernel
theorem dX0_liveLine_12 : decode cX0_liveLine 12 = .ok (.iload_n 3, 1) := by decide +kernel
theorem dX0_liveLine_13 : decode cX0_liveLine 13 = .ok (.iaload, 1) := by decide +kernel
theorem dX0_liveLine_14 : decode cX0_liveLine 14 = .ok (.istore 5, 2) := by decide +kernel
theorem dX0_liveLine_16 : decode cX0_liveLine 16 = .ok (.aload_n 0, 1) := by decide +kernel
theorem dX0_liveLine_17 : decode cX0_liveLine 17 = .ok (.getfield 21, 3) := by decide +kernel
theorem dX0_liveLine_20 : decode cX0_liveLine 20 = .ok (.iload_n 3, 1) := by decide +kernel
theorem dX0_liveLine_21 : decode cX0_liveLine 21 = .ok (.iaload, 1) := by decide +kernel
theorem dX0_liveLine_22 : decode cX0_liveLine 22 = .ok (.istore 6, 2) := by decide +kernel
theorem dX0_liveLine_24 : decode cX0_liveLine 24 = .ok (.aload 4, 2) := by decide +kernel
theorem dX0_liveLine_26 : decode cX0_liveLine 26 = .ok (.getstatic 85, 3) := by decide +kernel
theorem dX0_liveLine_29 : decode cX0_liveLine 29 = .ok (.if_acmp .ne 11, 3) := by decide +kernel
theorem dX0_liveLine_40 : decode cX0_liveLine 40 = .ok (.aload 4, 2) := by decide +kernel
theorem dX0_liveLine_42 : decode cX0_liveLine 42 = .ok (.getstatic 88, 3) := by decide +kernel
theorem dX0_liveLine_45 : decode cX0_liveLine 45 = .ok (.if_acmp .ne 42, 3) := by decide +kernel
theorem dX0_liveLine_87 : decode cX0_liveLine 87 = .ok (.aload 4, 2) := by decide +kernel
theorem dX0_liveLine_89 : decode cX0_liveLine 89 = .ok (.getstatic 56, 3) := by decide +kernel
theorem dX0_liveLine_92 : decode cX0_liveLine 92 = .ok (.if_acmp .ne 39, 3) := by decide +kernel
theorem dX0_liveLine_131 : decode cX0_liveLine 131 = .ok (.aload_n 2, 1) := by decide +kernel
theorem dX0_liveLine_132 : decode cX0_liveLine 132 = .ok (.getfield 102, 3) := by decide +kernel
theorem N230 : Cond.fieldLinkNest "HookedCity$Book" 102 "HookedCity$State" "day" "I" "HookedCity" ∈ lw_tbl := List.mem_of_getElem? (i := 230) (by decide +kernel)
theorem dX0_liveLine_135 : decode cX0_liveLine 135 = .ok (.iload 6, 2) := by decide +kernel
theorem dX0_liveLine_137 : decode cX0_liveLine 137 = .ok (.iadd, 1) := by decide +kernel
theorem dX0_liveLine_138 : decode cX0_liveLine 138 = .ok (.sipush 400, 3) := by decide +kernel
theorem dX0_liveLine_141 : decode cX0_liveLine 141 = .ok (.if_icmp .le 6, 3) := by decide +kernel
theorem dX0_liveLine_147 : decode cX0_liveLine 147 = .ok (.aload_n 2, 1) := by decide +kernel
theorem dX0_liveLine_148 : decode cX0_liveLine 148 = .ok (.aload_n 1, 1) := by decide +kernel
theorem dX0_liveLine_149 : decode cX0_liveLine 149 = .ok (.iload 6, 2) := by decide +kernel
theorem dX0_liveLine_151 : decode cX0_liveLine 151 = .ok (.invokevirtual 130, 3) := by decide +kernel
theorem G907 : Cond.code ⟨"HookedCity$State", "passDays", "(LHookedCity$Town;I)I"⟩ prog_9_method_12_code 4 (some .int) ∈ GW := gw_i 907 (by decide +kernel) rfl
theorem G1220 : Cond.methodLink "HookedCity$Book" 130 ⟨"HookedCity$State", "passDays", "(LHookedCity$Town;I)I"⟩ ∈ GW := gw_i 1220 (by decide +kernel) rfl
theorem V_HookedCity_Book_130 : VL "HookedCity$Book" 130 yX7_passDays cX7_passDays 4 (some .int) 2 := ⟨G907, G1220, G121, by decide +kernel, by decide +kernel, by decide +kernel⟩
theorem G905 : Cond.instanceMethod ⟨"HookedCity$State", "passDays", "(LHookedCity$Town;I)I"⟩ ∈ GW := gw_i 905 (by decide +kernel) rfl
theorem G906 : Cond.selects "HookedCity$State" ⟨"HookedCity$State", "passDays", "(LHookedCity$Town;I)I"⟩ ⟨"HookedCity$State", "passDays", "(LHookedCity$Town;I)I"⟩ ∈ GW := gw_i 906 (by decide +kernel) rfl
theorem dX0_liveLine_154 : decode cX0_liveLine 154 = .ok (.pop, 1) := by decide +kernel
theorem dX0_liveLine_155 : decode cX0_liveLine 155 = .ok (.iconst 0, 1) := by decide +kernel
theorem dX0_liveLine_156 : decode cX0_liveLine 156 = .ok (.ireturn, 1) := by decide +kernel
theorem dX0_liveLine_144 : decode cX0_liveLine 144 = .ok (.bipush 31, 2) := by decide +kernel
theorem dX0_liveLine_146 : decode cX0_liveLine 146 = .ok (.ireturn, 1) := by decide +kernel
theorem dX0_liveLine_95 : decode cX0_liveLine 95 = .ok (.aload_n 2, 1) := by decide +kernel
theorem dX0_liveLine_96 : decode cX0_liveLine 96 = .ok (.aload_n 1, 1) := by decide +kernel
theorem dX0_liveLine_97 : decode cX0_liveLine 97 = .ok (.iload 6, 2) := by decide +kernel
theorem dX0_liveLine_99 : decode cX0_liveLine 99 = .ok (.invokevirtual 122, 3) := by decide +kernel
theorem G895 : Cond.code ⟨"HookedCity$State", "whyNotSew", "(LHookedCity$Town;I)I"⟩ prog_9_method_10_code 3 (some .int) ∈ GW := gw_i 895 (by decide +kernel) rfl
theorem G1218 : Cond.methodLink "HookedCity$Book" 122 ⟨"HookedCity$State", "whyNotSew", "(LHookedCity$Town;I)I"⟩ ∈ GW := gw_i 1218 (by decide +kernel) rfl
theorem V_HookedCity_Book_122 : VL "HookedCity$Book" 122 yX7_whyNotSew cX7_whyNotSew 3 (some .int) 2 := ⟨G895, G1218, G121, by decide +kernel, by decide +kernel, by decide +kernel⟩
theorem G893 : Cond.instanceMethod ⟨"HookedCity$State", "whyNotSew", "(LHookedCity$Town;I)I"⟩ ∈ GW := gw_i 893 (by decide +kernel) rfl
theorem G894 : Cond.selects "HookedCity$State" ⟨"HookedCity$State", "whyNotSew", "(LHookedCity$Town;I)I"⟩ ⟨"HookedCity$State", "whyNotSew", "(LHookedCity$Town;I)I"⟩ ∈ GW := gw_i 894 (by decide +kernel) rfl
theorem dX0_liveLine_102 : decode cX0_liveLine 102 = .ok (.istore 7, 2) := by decide +kernel
theorem dX0_liveLine_104 : decode cX0_liveLine 104 = .ok (.iload 7, 2) := by decide +kernel
theorem dX0_liveLine_106 : decode cX0_liveLine 106 = .ok (.ifCond .ne 10, 3) := by decide +kernel
theorem dX0_liveLine_116 : decode cX0_liveLine 116 = .ok (.iload 7, 2) := by decide +kernel
theorem dX0_liveLine_118 : decode cX0_liveLine 118 = .ok (.ifCond .ne 7, 3) := by decide +kernel
theorem dX0_liveLine_125 : decode cX0_liveLine 125 = .ok (.bipush 20, 2) := by decide +kernel
theorem dX0_liveLine_127 : decode cX0_liveLine 127 = .ok (.iload 7, 2) := by decide +kernel
theorem dX0_liveLine_129 : decode cX0_liveLine 129 = .ok (.iadd, 1) := by decide +kernel
theorem dX0_liveLine_130 : decode cX0_liveLine 130 = .ok (.ireturn, 1) := by decide +kernel
theorem dX0_liveLine_121 : decode cX0_liveLine 121 = .ok (.iconst 0, 1) := by decide +kernel
theorem dX0_liveLine_122 : decode cX0_liveLine 122 = .ok (.goto 8, 3) := by decide +kernel
theorem dX0_liveLine_109 : decode cX0_liveLine 109 = .ok (.aload_n 2, 1) := by decide +kernel
theorem dX0_liveLine_110 : decode cX0_liveLine 110 = .ok (.aload_n 1, 1) := by decide +kernel
theorem dX0_liveLine_111 : decode cX0_liveLine 111 = .ok (.iload 6, 2) := by decide +kernel
theorem dX0_liveLine_113 : decode cX0_liveLine 113 = .ok (.invokevirtual 126, 3) := by decide +kernel
theorem G899 : Cond.code ⟨"HookedCity$State", "sew", "(LHookedCity$Town;I)V"⟩ prog_9_method_11_code 3 none ∈ GW := gw_i 899 (by decide +kernel) rfl
theorem G1219 : Cond.methodLink "HookedCity$Book" 126 ⟨"HookedCity$State", "sew", "(LHookedCity$Town;I)V"⟩ ∈ GW := gw_i 1219 (by decide +kernel) rfl
theorem V_HookedCity_Book_126 : VL "HookedCity$Book" 126 yX7_sew cX7_sew 3 none 2 := ⟨G899, G1219, G121, by decide +kernel, by decide +kernel, by decide +kernel⟩
theorem G897 : Cond.instanceMethod ⟨"HookedCity$State", "sew", "(LHookedCity$Town;I)V"⟩ ∈ GW := gw_i 897 (by decide +kernel) rfl
theorem G898 : Cond.selects "HookedCity$State" ⟨"HookedCity$State", "sew", "(LHookedCity$Town;I)V"⟩ ⟨"HookedCity$State", "sew", "(LHookedCity$Town;I)V"⟩ ∈ GW := gw_i 898 (by decide +kernel) rfl
theorem dX0_liveLine_48 : decode cX0_liveLine 48 = .ok (.aload_n 2, 1) := by decide +kernel
theorem dX0_liveLine_49 : decode cX0_liveLine 49 = .ok (.aload_n 1, 1) := by decide +kernel
theorem dX0_liveLine_50 : decode cX0_liveLine 50 = .ok (.iload 5, 2) := by decide +kernel
theorem dX0_liveLine_52 : decode cX0_liveLine 52 = .ok (.iload 6, 2) := by decide +kernel
theorem dX0_liveLine_54 : decode cX0_liveLine 54 = .ok (.invokevirtual 114, 3) := by decide +kernel
theorem G1216 : Cond.methodLink "HookedCity$Book" 114 ⟨"HookedCity$State", "whyNotLetGo", "(LHookedCity$Town;II)I"⟩ ∈ GW := gw_i 1216 (by decide +kernel) rfl
theorem V_HookedCity_Book_114 : VL "HookedCity$Book" 114 yX7_whyNotLetGo cX7_whyNotLetGo 4 (some .int) 3 := ⟨G879, G1216, G121, by decide +kernel, by decide +kernel, by decide +kernel⟩
theorem dX0_liveLine_57 : decode cX0_liveLine 57 = .ok (.istore 7, 2) := by decide +kernel
theorem dX0_liveLine_59 : decode cX0_liveLine 59 = .ok (.iload 7, 2) := by decide +kernel
theorem dX0_liveLine_61 : decode cX0_liveLine 61 = .ok (.ifCond .ne 11, 3) := by decide +kernel
theorem dX0_liveLine_72 : decode cX0_liveLine 72 = .ok (.iload 7, 2) := by decide +kernel
theorem dX0_liveLine_74 : decode cX0_liveLine 74 = .ok (.ifCond .ne 7, 3) := by decide +kernel
theorem dX0_liveLine_81 : decode cX0_liveLine 81 = .ok (.bipush 10, 2) := by decide +kernel
theorem dX0_liveLine_83 : decode cX0_liveLine 83 = .ok (.iload 7, 2) := by decide +kernel
theorem dX0_liveLine_85 : decode cX0_liveLine 85 = .ok (.iadd, 1) := by decide +kernel
theorem dX0_liveLine_86 : decode cX0_liveLine 86 = .ok (.ireturn, 1) := by decide +kernel
theorem dX0_liveLine_77 : decode cX0_liveLine 77 = .ok (.iconst 0, 1) := by decide +kernel
theorem dX0_liveLine_78 : decode cX0_liveLine 78 = .ok (.goto 8, 3) := by decide +kernel
theorem dX0_liveLine_64 : decode cX0_liveLine 64 = .ok (.aload_n 2, 1) := by decide +kernel
theorem dX0_liveLine_65 : decode cX0_liveLine 65 = .ok (.iload 5, 2) := by decide +kernel
theorem dX0_liveLine_67 : decode cX0_liveLine 67 = .ok (.iload 6, 2) := by decide +kernel
theorem dX0_liveLine_69 : decode cX0_liveLine 69 = .ok (.invokevirtual 118, 3) := by decide +kernel
theorem G1217 : Cond.methodLink "HookedCity$Book" 118 ⟨"HookedCity$State", "letGo", "(II)V"⟩ ∈ GW := gw_i 1217 (by decide +kernel) rfl
theorem V_HookedCity_Book_118 : VL "HookedCity$Book" 118 yX7_letGo cX7_letGo 3 none 2 := ⟨G883, G1217, G121, by decide +kernel, by decide +kernel, by decide +kernel⟩
theorem dX0_liveLine_32 : decode cX0_liveLine 32 = .ok (.aload_n 0, 1) := by decide +kernel
theorem dX0_liveLine_33 : decode cX0_liveLine 33 = .ok (.aload_n 1, 1) := by decide +kernel
theorem dX0_liveLine_34 : decode cX0_liveLine 34 = .ok (.aload_n 2, 1) := by decide +kernel
theorem dX0_liveLine_35 : decode cX0_liveLine 35 = .ok (.iload_n 3, 1) := by decide +kernel
theorem dX0_liveLine_36 : decode cX0_liveLine 36 = .ok (.invokevirtual 111, 3) := by decide +kernel
theorem G1213 : Cond.code ⟨"HookedCity$Book", "liveButtons", "(LHookedCity$Town;LHookedCity$State;I)I"⟩ prog_2_method_9_code 5 (some .int) ∈ GW := gw_i 1213 (by decide +kernel) rfl
theorem G1210 : Cond.methodLink "HookedCity$Book" 111 ⟨"HookedCity$Book", "liveButtons", "(LHookedCity$Town;LHookedCity$State;I)I"⟩ ∈ GW := gw_i 1210 (by decide +kernel) rfl
theorem V_HookedCity_Book_111 : VL "HookedCity$Book" 111 yX0_liveButtons cX0_liveButtons 5 (some .int) 3 := ⟨G1213, G1210, G122, by decide +kernel, by decide +kernel, by decide +kernel⟩
theorem G1212 : Cond.instanceMethod ⟨"HookedCity$Book", "liveButtons", "(LHookedCity$Town;LHookedCity$State;I)I"⟩ ∈ GW := gw_i 1212 (by decide +kernel) rfl
theorem G35 : Cond.selects "HookedCity$Book" ⟨"HookedCity$Book", "liveButtons", "(LHookedCity$Town;LHookedCity$State;I)I"⟩ ⟨"HookedCity$Book", "liveButtons", "(LHookedCity$Town;LHookedCity$State;I)I"⟩ ∈ GW := gw_i 35 (by decide +kernel) rfl
theorem dX0_liveLine_39 : decode cX0_liveLine 39 = .ok (.ireturn, 1) := by decide +kernel
theorem dX0_live_0 : decode cX0_live 0 = .ok (.iconst 0, 1) := by decide +kernel
theorem dX0_live_1 : decode cX0_live 1 = .ok (.istore_n 3, 1) := by decide +kernel
theorem dX0_live_2 : decode cX0_live 2 = .ok (.iconst 0, 1) := by decide +kernel
theorem dX0_live_3 : decode cX0_live 3 = .ok (.istore 4, 2) := by decide +kernel
theorem dX0_live_5 : decode cX0_live 5 = .ok (.iload 4, 2) := by decide +kernel
theorem dX0_live_7 : decode cX0_live 7 = .ok (.aload_n 0, 1) := by decide +kernel
theorem dX0_live_8 : decode cX0_live 8 = .ok (.getfield 30, 3) := by decide +kernel
theorem dX0_live_11 : decode cX0_live 11 = .ok (.if_icmp .ge 25, 3) := by decide +kernel
theorem dX0_live_36 : decode cX0_live 36 = .ok (.aload_n 0, 1) := by decide +kernel
theorem dX0_live_37 : decode cX0_live 37 = .ok (.getfield 27, 3) := by decide +kernel
theorem G267 : Cond.fieldLink "HookedCity$Book" 27 "HookedCity$Book" "tells" "[I" ∈ GW := gw_i 267 (by decide +kernel) rfl
theorem dX0_live_40 : decode cX0_live 40 = .ok (.iconst 0, 1) := by decide +kernel
theorem dX0_live_41 : decode cX0_live 41 = .ok (.iload_n 3, 1) := by decide +kernel
theorem dX0_live_42 : decode cX0_live 42 = .ok (.iastore, 1) := by decide +kernel
theorem dX0_live_43 : decode cX0_live 43 = .ok (.aload_n 0, 1) := by decide +kernel
theorem dX0_live_44 : decode cX0_live 44 = .ok (.getfield 27, 3) := by decide +kernel
theorem dX0_live_47 : decode cX0_live 47 = .ok (.iconst 1, 1) := by decide +kernel
theorem dX0_live_48 : decode cX0_live 48 = .ok (.iload 4, 2) := by decide +kernel
theorem dX0_live_50 : decode cX0_live 50 = .ok (.iastore, 1) := by decide +kernel
theorem dX0_live_51 : decode cX0_live 51 = .ok (.aload_n 0, 1) := by decide +kernel
theorem dX0_live_52 : decode cX0_live 52 = .ok (.getfield 27, 3) := by decide +kernel
theorem dX0_live_55 : decode cX0_live 55 = .ok (.iconst 2, 1) := by decide +kernel
theorem dX0_live_56 : decode cX0_live 56 = .ok (.aload_n 2, 1) := by decide +kernel
theorem dX0_live_57 : decode cX0_live 57 = .ok (.getfield 102, 3) := by decide +kernel
theorem dX0_live_60 : decode cX0_live 60 = .ok (.iastore, 1) := by decide +kernel
theorem dX0_live_61 : decode cX0_live 61 = .ok (.aload_n 0, 1) := by decide +kernel
theorem dX0_live_62 : decode cX0_live 62 = .ok (.getfield 27, 3) := by decide +kernel
theorem dX0_live_65 : decode cX0_live 65 = .ok (.iconst 3, 1) := by decide +kernel
theorem dX0_live_66 : decode cX0_live 66 = .ok (.aload_n 2, 1) := by decide +kernel
theorem dX0_live_67 : decode cX0_live 67 = .ok (.aload_n 1, 1) := by decide +kernel
theorem dX0_live_68 : decode cX0_live 68 = .ok (.invokevirtual 107, 3) := by decide +kernel
theorem G1221 : Cond.methodLink "HookedCity$Book" 107 ⟨"HookedCity$State", "openOnes", "(LHookedCity$Town;)I"⟩ ∈ GW := gw_i 1221 (by decide +kernel) rfl
theorem V_HookedCity_Book_107 : VL "HookedCity$Book" 107 yX7_openOnes cX7_openOnes 4 (some .int) 1 := ⟨G822, G1221, G121, by decide +kernel, by decide +kernel, by decide +kernel⟩
theorem dX0_live_71 : decode cX0_live 71 = .ok (.iastore, 1) := by decide +kernel
theorem dX0_live_72 : decode cX0_live 72 = .ok (.iload_n 3, 1) := by decide +kernel
theorem dX0_live_73 : decode cX0_live 73 = .ok (.ifCond .ne 7, 3) := by decide +kernel
theorem dX0_live_80 : decode cX0_live 80 = .ok (.iload 4, 2) := by decide +kernel
theorem dX0_live_82 : decode cX0_live 82 = .ok (.ireturn, 1) := by decide +kernel
theorem dX0_live_76 : decode cX0_live 76 = .ok (.iconst (-1), 1) := by decide +kernel
theorem dX0_live_77 : decode cX0_live 77 = .ok (.goto 5, 3) := by decide +kernel
theorem dX0_live_14 : decode cX0_live 14 = .ok (.aload_n 0, 1) := by decide +kernel
theorem dX0_live_15 : decode cX0_live 15 = .ok (.aload_n 1, 1) := by decide +kernel
theorem dX0_live_16 : decode cX0_live 16 = .ok (.aload_n 2, 1) := by decide +kernel
theorem dX0_live_17 : decode cX0_live 17 = .ok (.iload 4, 2) := by decide +kernel
theorem dX0_live_19 : decode cX0_live 19 = .ok (.invokevirtual 98, 3) := by decide +kernel
theorem G1209 : Cond.code ⟨"HookedCity$Book", "liveLine", "(LHookedCity$Town;LHookedCity$State;I)I"⟩ prog_2_method_8_code 8 (some .int) ∈ GW := gw_i 1209 (by decide +kernel) rfl
theorem G1206 : Cond.methodLink "HookedCity$Book" 98 ⟨"HookedCity$Book", "liveLine", "(LHookedCity$Town;LHookedCity$State;I)I"⟩ ∈ GW := gw_i 1206 (by decide +kernel) rfl
theorem V_HookedCity_Book_98 : VL "HookedCity$Book" 98 yX0_liveLine cX0_liveLine 8 (some .int) 3 := ⟨G1209, G1206, G122, by decide +kernel, by decide +kernel, by decide +kernel⟩
theorem G1208 : Cond.instanceMethod ⟨"HookedCity$Book", "liveLine", "(LHookedCity$Town;LHookedCity$State;I)I"⟩ ∈ GW := gw_i 1208 (by decide +kernel) rfl
theorem G34 : Cond.selects "HookedCity$Book" ⟨"HookedCity$Book", "liveLine", "(LHookedCity$Town;LHookedCity$State;I)I"⟩ ⟨"HookedCity$Book", "liveLine", "(LHookedCity$Town;LHookedCity$State;I)I"⟩ ∈ GW := gw_i 34 (by decide +kernel) rfl
theorem dX0_live_22 : decode cX0_live 22 = .ok (.istore_n 3, 1) := by decide +kernel
theorem dX0_live_23 : decode cX0_live 23 = .ok (.iload_n 3, 1) := by decide +kernel
theorem dX0_live_24 : decode cX0_live 24 = .ok (.ifCond .eq 6, 3) := by decide +kernel
theorem dX0_live_30 : decode cX0_live 30 = .ok (.iinc 4 1, 3) := by decide +kernel
theorem dX0_live_33 : decode cX0_live 33 = .ok (.goto (-28), 3) := by decide +kernel
theorem dX0_live_27 : decode cX0_live 27 = .ok (.goto 9, 3) := by decide +kernel
set_option maxRecDepth 100000 in
set_option maxHeartbeats 4000000 in
theorem c403_X0_readFirst (l : Launch) (D : va_G) (T : Nat → ClassId) (sz : Nat) (a0 : Nat) (a1 : Nat) (a2 : Nat) (a3 : Nat) (a4 : Nat) (a5 : Nat) (a6 : Nat) (a7 : Nat) (x0 : Int) (a8 : Nat) (x1 : Int) (x2 : Int) (x3 : Int) (x4 : Int) (x5 : Int) (o0 : Option Nat) (y0 : Int64) (r0 : Int32) (x6 : Int) (x7 : Int) (x8 : Int) (a9 : Nat) (a10 : Nat) (a11 : Nat) (a12 : Nat) (a13 : Nat) (a14 : Nat) (a15 : Nat) (a16 : Nat) (a17 : Nat) (x9 : Int) (x10 : Int) (x11 : Int) (x12 : Int) (x13 : Int) (x14 : Int) (x15 : Int) (x16 : Int) (x17 : Int) (f0 : Int → Int) (f1 : Int → Int) (h0 : Nat → Int64) (f2 : Int → Int) (f3 : Int → Int) (f4 : Int → Int) (f5 : Int → Int) (f6 : Int → Int) (f7 : Int → Int) (h1 : Nat → Int64) (f8 : Int → Int) (x0_a : 0 ≤ x0) (x0_b : x0 ≤ 39) (x1_a : 0 ≤ x1) (x1_b : x1 ≤ 940) (x2_a : 0 ≤ x2) (x2_b : x2 ≤ 940) (x3_a : 0 ≤ x3) (x3_b : x3 ≤ 940) (x4_a : 0 ≤ x4) (x4_b : x4 ≤ 940) (x5_a : 0 ≤ x5) (x5_b : x5 ≤ 5) (o0_h : wok T o0) (x6_a : (-2147483648) ≤ x6) (x6_b : x6 ≤ 2147483647) (x7_a : (-2147483648) ≤ x7) (x7_b : x7 ≤ 2147483647) (x8_a : 0 ≤ x8) (x8_b : x8 ≤ 940) (x9_a : 0 ≤ x9) (x9_b : x9 ≤ 9) (x10_a : 0 ≤ x10) (x10_b : x10 ≤ 3) (x11_a : 0 ≤ x11) (x11_b : x11 ≤ 900) (x12_a : (-2147483648) ≤ x12) (x12_b : x12 ≤ 2147483647) (x13_a : (-2147483648) ≤ x13) (x13_b : x13 ≤ 2147483647) (x14_a : (-2147483648) ≤ x14) (x14_b : x14 ≤ 2147483647) (x15_a : 0 ≤ x15) (x15_b : x15 ≤ 1) (x16_a : 0 ≤ x16) (x16_b : x16 ≤ 1) (x17_a : 0 ≤ x17) (x17_b : x17 ≤ 1) (f0_h : rng (-2147483648) 2147483647 f0) (f1_h : rng 0 255 f1) (f2_h : rng (-2147483648) 2147483647 f2) (f3_h : rng (-2147483648) 2147483647 f3) (f4_h : rng (-2147483648) 2147483647 f4) (f5_h : rng 0 511 f5) (f6_h : rng (-1) 8 f6) (f7_h : rng (-1) 8 f7) (f8_h : rng (-2147483648) 2147483647 f8) : Met l yX0_readFirst (Cond.code yX0_readFirst cX0_readFirst 3 (some .boolean) :: GW) (Rm 5 0 0) (cPre [.ref a0, .ref a1, .ref a2] D T [(a0, .inr (0, [.ref a3, .ref a4, .ref a5, .ref a6, .ref a7, .int (iI x0)])), (a1, .inr (8, [.ref a8, .int (iI x1), .int (iI x2), .int (iI x3), .int (iI x4), .int (iI x5), (va_rf o0), .long y0, .int r0, .int (iI x6), .int (iI x7), .int (iI x8)])), (a2, .inr (9, [.ref a9, .ref a10, .ref a11, .ref a12, .ref a13, .ref a14, .ref a15, .ref a16, .ref a17, .int (iI x9), .int (iI x10), .int (iI x11), .int (iI x12), .int (iI x13), .int (iI x14), .int (iI x15), .int (iI x16), .int (iI x17)])), (a5, .inl (T 0, 40, .inl (cI f0))), (a8, .inl (T 0, 940, .inl (cI f1))), (a9, .inl (T 1, 9, .inr (.inl h0))), (a10, .inl (T 0, 9, .inl (cI f2))), (a11, .inl (T 0, 9, .inl (cI f3))), (a12, .inl (T 0, 9, .inl (cI f4))), (a13, .inl (T 0, 9, .inl (cI f5))), (a14, .inl (T 0, 9, .inl (cI f6))), (a15, .inl (T 0, 9, .inl (cI f7))), (a16, .inl (T 1, 3, .inr (.inl h1))), (a17, .inl (T 0, 3, .inl (cI f8)))] sz) (qI D [(a0, .inr (0, [.ref a3, .ref a4, .ref a5, .ref a6, .ref a7, .int (iI x0)])), (a1, .inr (8, [.ref a8, .int (iI x1), .int (iI x2), .int (iI x3), .int (iI x4), .int (iI x5), (va_rf o0), .long y0, .int r0, .int (iI x6), .int (iI x7), .int (iI x8)])), (a2, .inr (9, [.ref a9, .ref a10, .ref a11, .ref a12, .ref a13, .ref a14, .ref a15, .ref a16, .ref a17, .int (iI x9), .int (iI x10), .int (iI x11), .int (iI x12), .int (iI x13), .int (iI x14), .int (iI x15), .int (iI x16), .int (iI x17)])), (a5, .inl (T 0, 40, .inl (cI f0))), (a8, .inl (T 0, 940, .inl (cI f1))), (a9, .inl (T 1, 9, .inr (.inl h0))), (a10, .inl (T 0, 9, .inl (cI f2))), (a11, .inl (T 0, 9, .inl (cI f3))), (a12, .inl (T 0, 9, .inl (cI f4))), (a13, .inl (T 0, 9, .inl (cI f5))), (a14, .inl (T 0, 9, .inl (cI f6))), (a15, .inl (T 0, 9, .inl (cI f7))), (a16, .inl (T 1, 3, .inr (.inl h1))), (a17, .inl (T 0, 3, .inl (cI f8)))] sz (fun (v : Int32) (u : Int × Int × Int × Int × Option Nat × Int64 × Int32 × Int × Int × Int × (Int → Int)) => iI u.1 = v ∧ 0 ≤ u.1 ∧ u.1 ≤ 1 ∧ 0 ≤ u.2.1 ∧ u.2.1 ≤ 940 ∧ 0 ≤ u.2.2.1 ∧ u.2.2.1 ≤ 940 ∧ 0 ≤ u.2.2.2.1 ∧ u.2.2.2.1 ≤ 5 ∧ wok T u.2.2.2.2.1 ∧ (-2147483648) ≤ u.2.2.2.2.2.2.2.1 ∧ u.2.2.2.2.2.2.2.1 ≤ 2147483647 ∧ (-2147483648) ≤ u.2.2.2.2.2.2.2.2.1 ∧ u.2.2.2.2.2.2.2.2.1 ≤ 2147483647 ∧ 0 ≤ u.2.2.2.2.2.2.2.2.2.1 ∧ u.2.2.2.2.2.2.2.2.2.1 ≤ 940 ∧ rng (-2147483648) 2147483647 u.2.2.2.2.2.2.2.2.2.2 ∧ (kp x0 f0 u.2.2.2.2.2.2.2.2.2.2) ∧ (u.1 = 1 → 0 ≤ u.2.2.2.2.2.2.2.2.2.2 x0 ∧ u.2.2.2.2.2.2.2.2.2.2 x0 ≤ 8) ∧ (kpB u.1 x7 u.2.2.2.2.2.2.2.2.1) ∧ (∀ x : Tk × Int × Int, gC T x x5 x4 x3 y0 r0 x6 o0 → RS (bkP f1 x1 x2 (sNa h0 x9) (x, x0)) u.1 u.2.2.2.2.2.2.2.2.1 u.2.2.2.2.2.2.2.2.2.1 (fun y => gC T y u.2.2.2.1 u.2.2.1 u.2.1 u.2.2.2.2.2.1 u.2.2.2.2.2.2.1 u.2.2.2.2.2.2.2.1 u.2.2.2.2.1) x0)) (fun u => [(a0, .inr (0, [.ref a3, .ref a4, .ref a5, .ref a6, .ref a7, .int (iI x0)])), (a1, .inr (8, [.ref a8, .int (iI x1), .int (iI x2), .int (iI u.2.1), .int (iI u.2.2.1), .int (iI u.2.2.2.1), (va_rf u.2.2.2.2.1), .long u.2.2.2.2.2.1, .int u.2.2.2.2.2.2.1, .int (iI u.2.2.2.2.2.2.2.1), .int (iI u.2.2.2.2.2.2.2.2.1), .int (iI u.2.2.2.2.2.2.2.2.2.1)])), (a2, .inr (9, [.ref a9, .ref a10, .ref a11, .ref a12, .ref a13, .ref a14, .ref a15, .ref a16, .ref a17, .int (iI x9), .int (iI x10), .int (iI x11), .int (iI x12), .int (iI x13), .int (iI x14), .int (iI x15), .int (iI x16), .int (iI x17)])), (a5, .inl (T 0, 40, .inl (cI u.2.2.2.2.2.2.2.2.2.2))), (a8, .inl (T 0, 940, .inl (cI f1))), (a9, .inl (T 1, 9, .inr (.inl h0))), (a10, .inl (T 0, 9, .inl (cI f2))), (a11, .inl (T 0, 9, .inl (cI f3))), (a12, .inl (T 0, 9, .inl (cI f4))), (a13, .inl (T 0, 9, .inl (cI f5))), (a14, .inl (T 0, 9, .inl (cI f6))), (a15, .inl (T 0, 9, .inl (cI f7))), (a16, .inl (T 1, 3, .inr (.inl h1))), (a17, .inl (T 0, 3, .inl (cI f8)))])) 0 0 (va_A [(a0, .inr (0, [.ref a3, .ref a4, .ref a5, .ref a6, .ref a7, .int (iI x0)])), (a1, .inr (8, [.ref a8, .int (iI x1), .int (iI x2), .int (iI x3), .int (iI x4), .int (iI x5), (va_rf o0), .long y0, .int r0, .int (iI x6), .int (iI x7), .int (iI x8)])), (a2, .inr (9, [.ref a9, .ref a10, .ref a11, .ref a12, .ref a13, .ref a14, .ref a15, .ref a16, .ref a17, .int (iI x9), .int (iI x10), .int (iI x11), .int (iI x12), .int (iI x13), .int (iI x14), .int (iI x15), .int (iI x16), .int (iI x17)])), (a5, .inl (T 0, 40, .inl (cI f0))), (a8, .inl (T 0, 940, .inl (cI f1))), (a9, .inl (T 1, 9, .inr (.inl h0))), (a10, .inl (T 0, 9, .inl (cI f2))), (a11, .inl (T 0, 9, .inl (cI f3))), (a12, .inl (T 0, 9, .inl (cI f4))), (a13, .inl (T 0, 9, .inl (cI f5))), (a14, .inl (T 0, 9, .inl (cI f6))), (a15, .inl (T 0, 9, .inl (cI f7))), (a16, .inl (T 1, 3, .inr (.inl h1))), (a17, .inl (T 0, 3, .inl (cI f8)))] sz) := by
  refine e_Z (by decide) (Nat.le_of_ble_eq_true rfl) ?_
  intro p e s m args below meth c A Q ls M hin w ret hl
  have hx := M.1.1
  have hb := M.1.2.1
  have hl : lv_has ls 3 [(0, .ref a0), (1, .ref a1), (2, .ref a2)] := hl
  refine lv_aload_n hx hb dX0_readFirst_0 rfl (lv_at hl 0 rfl) ?_
  refine r_get (v := .ref a5) M w 0 2 clX0 rfl (by decide) G265 rfl rfl dX0_readFirst_1 ?_
  refine lv_aload_n hx hb dX0_readFirst_4 rfl (lv_at hl 0 rfl) ?_
  refine r_get (v := .int (iI x0)) M w 0 5 clX0 rfl (by decide) G269 rfl rfl dX0_readFirst_5 ?_
  refine lv_aload_n hx hb dX0_readFirst_8 rfl (lv_at hl 2 rfl) ?_
  refine lv_aload_n hx hb dX0_readFirst_9 rfl (lv_at hl 1 rfl) ?_
  refine k_I (ce := 0) (sl := 0) (rest := [.int (iI x0), .ref a5]) (wr := [(a0, .inr (0, [.ref a3, .ref a4, .ref a5, .ref a6, .ref a7, .int (iI x0)])), (a5, .inl (T 0, 40, .inl (cI f0)))]) (r_V (f := 2) [2, 1, 5, 6, 7, 8, 9, 10, 11, 12, 13, 4] M w V_HookedCity_Book_91 G743 G744 (c284_X9_personAt l D T _ a2 a1 a9 a10 a11 a12 a13 a14 a15 a16 a17 x9 x10 x11 x12 x13 x14 x15 x16 x17 a8 x1 x2 x3 x4 x5 o0 y0 r0 x6 x7 x8 h0 f2 f3 f4 f5 f6 f7 h1 f8 f1 x9_a x9_b x10_a x10_b x11_a x11_b x12_a x12_b x13_a x13_b x14_a x14_b x15_a x15_b x16_a x16_b x17_a x17_b x1_a x1_b x2_a x2_b x3_a x3_b x4_a x4_b x5_a x5_b o0_h x6_a x6_b x7_a x7_b x8_a x8_b f2_h f3_h f4_h f5_h f6_h f7_h f8_h f1_h) 2 clX9 rfl rfl (by decide) rfl hl.1 rfl (Nat.le_of_ble_eq_true rfl) dX0_readFirst_10 (by decide) (by decide) (by decide) (by decide)) w [2, 1, 5, 6, 7, 8, 9, 10, 11, 12, 13, 4] [0, 3] rfl rfl (by decide) (by decide) rfl rfl (fun v u H locs hp w => ?_)
  obtain ⟨z1, z2, z3⟩ := u
  have hv : iI z1 = v := hp.1
  subst hv
  have z1_a : (-1) ≤ z1 := hp.2.1
  have z1_b : z1 ≤ 8 := hp.2.2.1
  have z2_a : (-2147483648) ≤ z2 := hp.2.2.2.1
  have z2_b : z2 ≤ 2147483647 := hp.2.2.2.2.1
  have z3_a : 0 ≤ z3 := hp.2.2.2.2.2.1
  have z3_b : z3 ≤ 940 := hp.2.2.2.2.2.2.1
  have ee4 : 0 ≤ ((x9 - z1) - 1) := hp.2.2.2.2.2.2.2.1
  have pq5 : ∀ (x : Tk × Int × Int) (rd : Int → Int) (h : Nat → Int64) (o : Int → Int), gC T x x5 x4 x3 y0 r0 x6 o0 → XW rd h o h0 f2 f3 f4 f5 f6 f7 h1 f8 x9 x10 x12 x13 x14 x15 x16 x17 → XV (sOne rd h x) z1 z2 z3 := hp.2.2.2.2.2.2.2.2.1
  have pq6 : ∀ x : Tk × Int × Int, gC T x x5 x4 x3 y0 r0 x6 o0 → XV ((sNa h0 x9) x) z1 z2 z3 := hp.2.2.2.2.2.2.2.2.2.1
  have pq7 : kpF z1 x7 z2 := hp.2.2.2.2.2.2.2.2.2.2
  have w : WD D A s.heap [(a0, .inr (0, [.ref a3, .ref a4, .ref a5, .ref a6, .ref a7, .int (iI x0)])), (a5, .inl (T 0, 40, .inl (cI f0))), (a2, .inr (9, [.ref a9, .ref a10, .ref a11, .ref a12, .ref a13, .ref a14, .ref a15, .ref a16, .ref a17, .int (iI x9), .int (iI x10), .int (iI x11), .int (iI x12), .int (iI x13), .int (iI x14), .int (iI x15), .int (iI x16), .int (iI x17)])), (a1, .inr (8, [.ref a8, .int (iI x1), .int (iI x2), .int (iI x3), .int (iI x4), .int (iI x5), (va_rf o0), .long y0, .int r0, .int (iI x6), .int (iI z2), .int (iI z3)])), (a9, .inl (T 1, 9, .inr (.inl h0))), (a10, .inl (T 0, 9, .inl (cI f2))), (a11, .inl (T 0, 9, .inl (cI f3))), (a12, .inl (T 0, 9, .inl (cI f4))), (a13, .inl (T 0, 9, .inl (cI f5))), (a14, .inl (T 0, 9, .inl (cI f6))), (a15, .inl (T 0, 9, .inl (cI f7))), (a16, .inl (T 1, 3, .inr (.inl h1))), (a17, .inl (T 0, 3, .inl (cI f8))), (a8, .inl (T 0, 940, .inl (cI f1)))] H locs := w
  refine r_iast (ws' := [(a0, .inr (0, [.ref a3, .ref a4, .ref a5, .ref a6, .ref a7, .int (iI x0)])), (a5, .inl (T 0, 40, .inl (cI (upz f0 x0 z1)))), (a2, .inr (9, [.ref a9, .ref a10, .ref a11, .ref a12, .ref a13, .ref a14, .ref a15, .ref a16, .ref a17, .int (iI x9), .int (iI x10), .int (iI x11), .int (iI x12), .int (iI x13), .int (iI x14), .int (iI x15), .int (iI x16), .int (iI x17)])), (a1, .inr (8, [.ref a8, .int (iI x1), .int (iI x2), .int (iI x3), .int (iI x4), .int (iI x5), (va_rf o0), .long y0, .int r0, .int (iI x6), .int (iI z2), .int (iI z3)])), (a9, .inl (T 1, 9, .inr (.inl h0))), (a10, .inl (T 0, 9, .inl (cI f2))), (a11, .inl (T 0, 9, .inl (cI f3))), (a12, .inl (T 0, 9, .inl (cI f4))), (a13, .inl (T 0, 9, .inl (cI f5))), (a14, .inl (T 0, 9, .inl (cI f6))), (a15, .inl (T 0, 9, .inl (cI f7))), (a16, .inl (T 1, 3, .inr (.inl h1))), (a17, .inl (T 0, 3, .inl (cI f8))), (a8, .inl (T 0, 940, .inl (cI f1)))]) M w 1 rfl (iI_in (by omega) (by omega) (by decide)) (by rw [cI_up (by omega) (by omega)]; rfl) dX0_readFirst_13 (fun H locs w => ?_)
  refine lv_aload_n hx hb dX0_readFirst_14 rfl (lv_at hl 0 rfl) ?_
  refine r_get (v := .ref a5) M w 0 2 clX0 rfl (by decide) G265 rfl rfl dX0_readFirst_15 ?_
  refine lv_aload_n hx hb dX0_readFirst_18 rfl (lv_at hl 0 rfl) ?_
  refine r_get (v := .int (iI x0)) M w 0 5 clX0 rfl (by decide) G269 rfl rfl dX0_readFirst_19 ?_
  refine r_iald (v := iI z1) M w 1 rfl (iI_in (by omega) (by omega) (by decide)) ((cI_at (by omega) (by omega)).trans (congrArg iI (by rw [upz_s]))) dX0_readFirst_22 ?_
  refine lv_iconst (v := iI (-1)) hx hb dX0_readFirst_23 (by decide +kernel) ?_
  refine lv_icmp_ne (tgt := 29) hx hb dX0_readFirst_24 (by decide) (fun c_8 => ?_) (fun c_8 => ?_)
  · replace c_8 : ¬ z1 = (-1) := fun h => c_8 ((iI_eq (Int.le_trans (by decide) z1_a) (Int.le_trans z1_b (by decide)) (by decide) (by decide)).mpr h)
    refine lv_aload_n hx hb dX0_readFirst_29 rfl (lv_at hl 1 rfl) ?_
    refine k_V (ce := 0) (sl := 0) (rest := []) (wr := [(a0, .inr (0, [.ref a3, .ref a4, .ref a5, .ref a6, .ref a7, .int (iI x0)])), (a5, .inl (T 0, 40, .inl (cI (upz f0 x0 z1)))), (a2, .inr (9, [.ref a9, .ref a10, .ref a11, .ref a12, .ref a13, .ref a14, .ref a15, .ref a16, .ref a17, .int (iI x9), .int (iI x10), .int (iI x11), .int (iI x12), .int (iI x13), .int (iI x14), .int (iI x15), .int (iI x16), .int (iI x17)])), (a9, .inl (T 1, 9, .inr (.inl h0))), (a10, .inl (T 0, 9, .inl (cI f2))), (a11, .inl (T 0, 9, .inl (cI f3))), (a12, .inl (T 0, 9, .inl (cI f4))), (a13, .inl (T 0, 9, .inl (cI f5))), (a14, .inl (T 0, 9, .inl (cI f6))), (a15, .inl (T 0, 9, .inl (cI f7))), (a16, .inl (T 1, 3, .inr (.inl h1))), (a17, .inl (T 0, 3, .inl (cI f8)))]) (r_V (f := 4) [3, 13] M w V_HookedCity_Book_72 G587 G588 (c266_X8_step l D T _ a1 a8 x1 x2 x3 x4 x5 o0 y0 r0 x6 z2 z3 f1 x1_a x1_b x2_a x2_b x3_a x3_b x4_a x4_b x5_a x5_b o0_h x6_a x6_b z2_a z2_b z3_a z3_b f1_h) 3 clX8 rfl rfl (by decide) rfl hl.1 rfl (Nat.le_of_ble_eq_true rfl) dX0_readFirst_30 (by decide) (by decide) (by decide) (by decide)) w [3, 13] [0, 1, 2, 4, 5, 6, 7, 8, 9, 10, 11, 12] rfl rfl (by decide) (by decide) rfl rfl (fun u H locs hp w => ?_)
    obtain ⟨z9, z10, z11, fo12, fy13, fr14, z15⟩ := u
    have z9_a : 0 ≤ z9 := hp.1
    have z9_b : z9 ≤ 940 := hp.2.1
    have z10_a : 0 ≤ z10 := hp.2.2.1
    have z10_b : z10 ≤ 940 := hp.2.2.2.1
    have z11_a : 0 ≤ z11 := hp.2.2.2.2.1
    have z11_b : z11 ≤ 5 := hp.2.2.2.2.2.1
    have fo12_h : wok T fo12 := hp.2.2.2.2.2.2.1
    have z15_a : (-2147483648) ≤ z15 := hp.2.2.2.2.2.2.2.1
    have z15_b : z15 ≤ 2147483647 := hp.2.2.2.2.2.2.2.2.1
    have pq16 : gC T (tkAt f1 x1 x2 x3) z11 z10 z9 fy13 fr14 z15 fo12 := hp.2.2.2.2.2.2.2.2.2
    have w : WD D A s.heap [(a0, .inr (0, [.ref a3, .ref a4, .ref a5, .ref a6, .ref a7, .int (iI x0)])), (a5, .inl (T 0, 40, .inl (cI (upz f0 x0 z1)))), (a2, .inr (9, [.ref a9, .ref a10, .ref a11, .ref a12, .ref a13, .ref a14, .ref a15, .ref a16, .ref a17, .int (iI x9), .int (iI x10), .int (iI x11), .int (iI x12), .int (iI x13), .int (iI x14), .int (iI x15), .int (iI x16), .int (iI x17)])), (a9, .inl (T 1, 9, .inr (.inl h0))), (a10, .inl (T 0, 9, .inl (cI f2))), (a11, .inl (T 0, 9, .inl (cI f3))), (a12, .inl (T 0, 9, .inl (cI f4))), (a13, .inl (T 0, 9, .inl (cI f5))), (a14, .inl (T 0, 9, .inl (cI f6))), (a15, .inl (T 0, 9, .inl (cI f7))), (a16, .inl (T 1, 3, .inr (.inl h1))), (a17, .inl (T 0, 3, .inl (cI f8))), (a1, .inr (8, [.ref a8, .int (iI x1), .int (iI x2), .int (iI z9), .int (iI z10), .int (iI z11), (va_rf fo12), .long fy13, .int fr14, .int (iI z15), .int (iI z2), .int (iI z3)])), (a8, .inl (T 0, 940, .inl (cI f1)))] H locs := w
    refine lv_iconst (v := iI 1) hx hb dX0_readFirst_33 (by decide +kernel) ?_
    exact ret _ (1, z9, z10, z11, fo12, fy13, fr14, z15, z2, z3, (upz f0 x0 z1)) _ _ _ _ _ [0, 12, 2, 1, 13, 3, 4, 5, 6, 7, 8, 9, 10, 11] dX0_readFirst_34 (by decide +kernel) ⟨rfl, (show (0 : Int) ≤ 1 from by decide), (show (1 : Int) ≤ 1 from by decide), z9_a, z9_b, z10_a, z10_b, z11_a, z11_b, fo12_h, z15_a, z15_b, z2_a, z2_b, z3_a, z3_b, (rng_up f0_h (by omega) (by omega)), (show kp x0 f0 (upz f0 x0 z1) from (kp_up kp_rfl (by omega))), (show 1 = 1 → 0 ≤ (upz f0 x0 z1) x0 ∧ (upz f0 x0 z1) x0 ≤ 8 from (fun _ => by have e9 := upz_s f0 x0 z1; omega)), (show kpB 1 x7 z2 from (fun hr => by have y0 := pq7 (by omega); omega)), (show ∀ x : Tk × Int × Int, gC T x x5 x4 x3 y0 r0 x6 o0 → RS (bkP f1 x1 x2 (sNa h0 x9) (x, x0)) 1 z2 z3 (fun y => gC T y z11 z10 z9 fy13 fr14 z15 fo12) x0 from (fun x g => bnX_1 (pq6 x g) (by omega) (fun _ => ⟨rfl, gC_nx g pq16, rfl⟩)))⟩ w (by decide) rfl
  · replace c_8 := (iI_eq (Int.le_trans (by decide) z1_a) (Int.le_trans z1_b (by decide)) (by decide) (by decide)).mp c_8
    refine lv_iconst (v := iI 0) hx hb dX0_readFirst_27 (by decide +kernel) ?_
    exact ret _ (0, x3, x4, x5, o0, y0, r0, x6, z2, z3, (upz f0 x0 z1)) _ _ _ _ _ [0, 3, 2, 1, 13, 4, 5, 6, 7, 8, 9, 10, 11, 12] dX0_readFirst_28 (by decide +kernel) ⟨rfl, (show (0 : Int) ≤ 0 from by decide), (show (0 : Int) ≤ 1 from by decide), x3_a, x3_b, x4_a, x4_b, x5_a, x5_b, o0_h, x6_a, x6_b, z2_a, z2_b, z3_a, z3_b, (rng_up f0_h (by omega) (by omega)), (show kp x0 f0 (upz f0 x0 z1) from (kp_up kp_rfl (by omega))), (show 0 = 1 → 0 ≤ (upz f0 x0 z1) x0 ∧ (upz f0 x0 z1) x0 ≤ 8 from (fun h => absurd h (by decide))), (show kpB 0 x7 z2 from (fun e => absurd e (by decide))), (show ∀ x : Tk × Int × Int, gC T x x5 x4 x3 y0 r0 x6 o0 → RS (bkP f1 x1 x2 (sNa h0 x9) (x, x0)) 0 z2 z3 (fun y => gC T y x5 x4 x3 y0 r0 x6 o0) x0 from (fun x g => bnX_0 (pq6 x g) (by omega)))⟩ w (by decide) rfl
set_option maxRecDepth 100000 in
set_option maxHeartbeats 4000000 in
theorem c404_X0_readDeed (l : Launch) (D : va_G) (T : Nat → ClassId) (sz : Nat) (a0 : Nat) (a1 : Nat) (a2 : Nat) (a3 : Nat) (a4 : Nat) (a5 : Nat) (a6 : Nat) (a7 : Nat) (x0 : Int) (a8 : Nat) (x1 : Int) (x2 : Int) (x3 : Int) (x4 : Int) (x5 : Int) (o0 : Option Nat) (y0 : Int64) (r0 : Int32) (x6 : Int) (x7 : Int) (x8 : Int) (a9 : Nat) (a10 : Nat) (a11 : Nat) (a12 : Nat) (a13 : Nat) (a14 : Nat) (a15 : Nat) (a16 : Nat) (a17 : Nat) (x9 : Int) (x10 : Int) (x11 : Int) (x12 : Int) (x13 : Int) (x14 : Int) (x15 : Int) (x16 : Int) (x17 : Int) (g0 : Nat → Option Nat) (f0 : Int → Int) (f1 : Int → Int) (f2 : Int → Int) (h0 : Nat → Int64) (f3 : Int → Int) (f4 : Int → Int) (f5 : Int → Int) (f6 : Int → Int) (f7 : Int → Int) (f8 : Int → Int) (h1 : Nat → Int64) (f9 : Int → Int) (x0_a : 0 ≤ x0) (x0_b : x0 ≤ 39) (x1_a : 0 ≤ x1) (x1_b : x1 ≤ 940) (x2_a : 0 ≤ x2) (x2_b : x2 ≤ 940) (x3_a : 0 ≤ x3) (x3_b : x3 ≤ 940) (x4_a : 0 ≤ x4) (x4_b : x4 ≤ 940) (x5_a : 0 ≤ x5) (x5_b : x5 ≤ 5) (o0_h : wok T o0) (x6_a : (-2147483648) ≤ x6) (x6_b : x6 ≤ 2147483647) (x7_a : (-2147483648) ≤ x7) (x7_b : x7 ≤ 2147483647) (x8_a : 0 ≤ x8) (x8_b : x8 ≤ 940) (x9_a : 0 ≤ x9) (x9_b : x9 ≤ 9) (x10_a : 0 ≤ x10) (x10_b : x10 ≤ 3) (x11_a : 0 ≤ x11) (x11_b : x11 ≤ 900) (x12_a : (-2147483648) ≤ x12) (x12_b : x12 ≤ 2147483647) (x13_a : (-2147483648) ≤ x13) (x13_b : x13 ≤ 2147483647) (x14_a : (-2147483648) ≤ x14) (x14_b : x14 ≤ 2147483647) (x15_a : 0 ≤ x15) (x15_b : x15 ≤ 1) (x16_a : 0 ≤ x16) (x16_b : x16 ≤ 1) (x17_a : 0 ≤ x17) (x17_b : x17 ≤ 1) (g0_h : woks T g0) (f0_h : rng (-2147483648) 2147483647 f0) (f1_h : rng (-1) 8 f1) (f2_h : rng 0 255 f2) (f3_h : rng (-2147483648) 2147483647 f3) (f4_h : rng (-2147483648) 2147483647 f4) (f5_h : rng (-2147483648) 2147483647 f5) (f6_h : rng 0 511 f6) (f7_h : rng (-1) 8 f7) (f8_h : rng (-1) 8 f8) (f9_h : rng (-2147483648) 2147483647 f9) : Met l yX0_readDeed (Cond.code yX0_readDeed cX0_readDeed 4 (some .boolean) :: GW) (Rm 6 0 0) (cPre [.ref a0, .ref a1, .ref a2] D T [(a0, .inr (0, [.ref a3, .ref a4, .ref a5, .ref a6, .ref a7, .int (iI x0)])), (a1, .inr (8, [.ref a8, .int (iI x1), .int (iI x2), .int (iI x3), .int (iI x4), .int (iI x5), (va_rf o0), .long y0, .int r0, .int (iI x6), .int (iI x7), .int (iI x8)])), (a2, .inr (9, [.ref a9, .ref a10, .ref a11, .ref a12, .ref a13, .ref a14, .ref a15, .ref a16, .ref a17, .int (iI x9), .int (iI x10), .int (iI x11), .int (iI x12), .int (iI x13), .int (iI x14), .int (iI x15), .int (iI x16), .int (iI x17)])), (a3, .inl (T 5, 40, .inr (.inr (.inr (.inr g0))))), (a5, .inl (T 0, 40, .inl (cI f0))), (a6, .inl (T 0, 40, .inl (cI f1))), (a8, .inl (T 0, 940, .inl (cI f2))), (a9, .inl (T 1, 9, .inr (.inl h0))), (a10, .inl (T 0, 9, .inl (cI f3))), (a11, .inl (T 0, 9, .inl (cI f4))), (a12, .inl (T 0, 9, .inl (cI f5))), (a13, .inl (T 0, 9, .inl (cI f6))), (a14, .inl (T 0, 9, .inl (cI f7))), (a15, .inl (T 0, 9, .inl (cI f8))), (a16, .inl (T 1, 3, .inr (.inl h1))), (a17, .inl (T 0, 3, .inl (cI f9)))] sz) (qI D [(a0, .inr (0, [.ref a3, .ref a4, .ref a5, .ref a6, .ref a7, .int (iI x0)])), (a1, .inr (8, [.ref a8, .int (iI x1), .int (iI x2), .int (iI x3), .int (iI x4), .int (iI x5), (va_rf o0), .long y0, .int r0, .int (iI x6), .int (iI x7), .int (iI x8)])), (a2, .inr (9, [.ref a9, .ref a10, .ref a11, .ref a12, .ref a13, .ref a14, .ref a15, .ref a16, .ref a17, .int (iI x9), .int (iI x10), .int (iI x11), .int (iI x12), .int (iI x13), .int (iI x14), .int (iI x15), .int (iI x16), .int (iI x17)])), (a3, .inl (T 5, 40, .inr (.inr (.inr (.inr g0))))), (a5, .inl (T 0, 40, .inl (cI f0))), (a6, .inl (T 0, 40, .inl (cI f1))), (a8, .inl (T 0, 940, .inl (cI f2))), (a9, .inl (T 1, 9, .inr (.inl h0))), (a10, .inl (T 0, 9, .inl (cI f3))), (a11, .inl (T 0, 9, .inl (cI f4))), (a12, .inl (T 0, 9, .inl (cI f5))), (a13, .inl (T 0, 9, .inl (cI f6))), (a14, .inl (T 0, 9, .inl (cI f7))), (a15, .inl (T 0, 9, .inl (cI f8))), (a16, .inl (T 1, 3, .inr (.inl h1))), (a17, .inl (T 0, 3, .inl (cI f9)))] sz (fun (v : Int32) (u : Int × Int × Int × Int × Option Nat × Int64 × Int32 × Int × Int × Int × (Nat → Option Nat) × (Int → Int) × (Int → Int)) => iI u.1 = v ∧ 0 ≤ u.1 ∧ u.1 ≤ 1 ∧ 0 ≤ u.2.1 ∧ u.2.1 ≤ 940 ∧ 0 ≤ u.2.2.1 ∧ u.2.2.1 ≤ 940 ∧ 0 ≤ u.2.2.2.1 ∧ u.2.2.2.1 ≤ 5 ∧ wok T u.2.2.2.2.1 ∧ (-2147483648) ≤ u.2.2.2.2.2.2.2.1 ∧ u.2.2.2.2.2.2.2.1 ≤ 2147483647 ∧ (-2147483648) ≤ u.2.2.2.2.2.2.2.2.1 ∧ u.2.2.2.2.2.2.2.2.1 ≤ 2147483647 ∧ 0 ≤ u.2.2.2.2.2.2.2.2.2.1 ∧ u.2.2.2.2.2.2.2.2.2.1 ≤ 940 ∧ woks T u.2.2.2.2.2.2.2.2.2.2.1 ∧ rng (-2147483648) 2147483647 u.2.2.2.2.2.2.2.2.2.2.2.1 ∧ rng (-1) 8 u.2.2.2.2.2.2.2.2.2.2.2.2 ∧ (kpo x0 g0 u.2.2.2.2.2.2.2.2.2.2.1) ∧ (kp x0 f0 u.2.2.2.2.2.2.2.2.2.2.2.1) ∧ (kp x0 f1 u.2.2.2.2.2.2.2.2.2.2.2.2) ∧ (u.1 = 1 → ∀ a, 0 ≤ a → bk1 T (u.2.2.2.2.2.2.2.2.2.2.1 (Int32.toNatClampNeg (iI x0))) a (u.2.2.2.2.2.2.2.2.2.2.2.1 x0) (u.2.2.2.2.2.2.2.2.2.2.2.2 x0)) ∧ (kpB u.1 x7 u.2.2.2.2.2.2.2.2.1) ∧ (∀ x : Tk × Int × Int, gC T x x5 x4 x3 y0 r0 x6 o0 → RS (bkD f2 x1 x2 (sNa h0 x9) (x, x0)) u.1 u.2.2.2.2.2.2.2.2.1 u.2.2.2.2.2.2.2.2.2.1 (fun y => gC T y u.2.2.2.1 u.2.2.1 u.2.1 u.2.2.2.2.2.1 u.2.2.2.2.2.2.1 u.2.2.2.2.2.2.2.1 u.2.2.2.2.1) x0)) (fun u => [(a0, .inr (0, [.ref a3, .ref a4, .ref a5, .ref a6, .ref a7, .int (iI x0)])), (a1, .inr (8, [.ref a8, .int (iI x1), .int (iI x2), .int (iI u.2.1), .int (iI u.2.2.1), .int (iI u.2.2.2.1), (va_rf u.2.2.2.2.1), .long u.2.2.2.2.2.1, .int u.2.2.2.2.2.2.1, .int (iI u.2.2.2.2.2.2.2.1), .int (iI u.2.2.2.2.2.2.2.2.1), .int (iI u.2.2.2.2.2.2.2.2.2.1)])), (a2, .inr (9, [.ref a9, .ref a10, .ref a11, .ref a12, .ref a13, .ref a14, .ref a15, .ref a16, .ref a17, .int (iI x9), .int (iI x10), .int (iI x11), .int (iI x12), .int (iI x13), .int (iI x14), .int (iI x15), .int (iI x16), .int (iI x17)])), (a3, .inl (T 5, 40, .inr (.inr (.inr (.inr u.2.2.2.2.2.2.2.2.2.2.1))))), (a5, .inl (T 0, 40, .inl (cI u.2.2.2.2.2.2.2.2.2.2.2.1))), (a6, .inl (T 0, 40, .inl (cI u.2.2.2.2.2.2.2.2.2.2.2.2))), (a8, .inl (T 0, 940, .inl (cI f2))), (a9, .inl (T 1, 9, .inr (.inl h0))), (a10, .inl (T 0, 9, .inl (cI f3))), (a11, .inl (T 0, 9, .inl (cI f4))), (a12, .inl (T 0, 9, .inl (cI f5))), (a13, .inl (T 0, 9, .inl (cI f6))), (a14, .inl (T 0, 9, .inl (cI f7))), (a15, .inl (T 0, 9, .inl (cI f8))), (a16, .inl (T 1, 3, .inr (.inl h1))), (a17, .inl (T 0, 3, .inl (cI f9)))])) 0 0 (va_A [(a0, .inr (0, [.ref a3, .ref a4, .ref a5, .ref a6, .ref a7, .int (iI x0)])), (a1, .inr (8, [.ref a8, .int (iI x1), .int (iI x2), .int (iI x3), .int (iI x4), .int (iI x5), (va_rf o0), .long y0, .int r0, .int (iI x6), .int (iI x7), .int (iI x8)])), (a2, .inr (9, [.ref a9, .ref a10, .ref a11, .ref a12, .ref a13, .ref a14, .ref a15, .ref a16, .ref a17, .int (iI x9), .int (iI x10), .int (iI x11), .int (iI x12), .int (iI x13), .int (iI x14), .int (iI x15), .int (iI x16), .int (iI x17)])), (a3, .inl (T 5, 40, .inr (.inr (.inr (.inr g0))))), (a5, .inl (T 0, 40, .inl (cI f0))), (a6, .inl (T 0, 40, .inl (cI f1))), (a8, .inl (T 0, 940, .inl (cI f2))), (a9, .inl (T 1, 9, .inr (.inl h0))), (a10, .inl (T 0, 9, .inl (cI f3))), (a11, .inl (T 0, 9, .inl (cI f4))), (a12, .inl (T 0, 9, .inl (cI f5))), (a13, .inl (T 0, 9, .inl (cI f6))), (a14, .inl (T 0, 9, .inl (cI f7))), (a15, .inl (T 0, 9, .inl (cI f8))), (a16, .inl (T 1, 3, .inr (.inl h1))), (a17, .inl (T 0, 3, .inl (cI f9)))] sz) := by
  refine e_Z (by decide) (Nat.le_of_ble_eq_true rfl) ?_
  intro p e s m args below meth c A Q ls M hin w ret hl
  have hx := M.1.1
  have hb := M.1.2.1
  have hl : lv_has ls 4 [(0, .ref a0), (1, .ref a1), (2, .ref a2)] := hl
  refine lv_aload_n hx hb dX0_readDeed_0 rfl (lv_at hl 1 rfl) ?_
  refine r_getN (v := (va_rf o0)) M w 1 6 clX8 rfl (by decide) N171 rfl rfl dX0_readDeed_1 ?_
  cases o0 with
  | none =>
    refine lv_astore_nN (lv' := [(3, .null), (0, .ref a0), (1, .ref a1), (2, .ref a2)]) hx hb dX0_readDeed_4 rfl hl (by decide) rfl (fun ls hl => ?_)
    refine lv_aload_nN hx hb dX0_readDeed_5 rfl (lv_at hl 0 rfl) ?_
    refine r_gets M w 11 rfl G1187 dX0_readDeed_6 ?_
    refine lv_acmp_eq (rx := none) (ry := (some (T (10 + 11)))) (tgt := 25) hx hb dX0_readDeed_9 (by decide) (fun c => absurd c (by simp)) (fun _ => ?_)
    refine lv_aload_nN hx hb dX0_readDeed_12 rfl (lv_at hl 0 rfl) ?_
    refine r_gets M w 12 rfl G1189 dX0_readDeed_13 ?_
    refine lv_acmp_eq (rx := none) (ry := (some (T (10 + 12)))) (tgt := 25) hx hb dX0_readDeed_16 (by decide) (fun c => absurd c (by simp)) (fun _ => ?_)
    refine lv_aload_n hx hb dX0_readDeed_19 rfl (lv_at hl 2 rfl) ?_
    refine lv_iconst (v := iI 1) hx hb dX0_readDeed_20 (by decide +kernel) ?_
    refine k_I (ce := 0) (sl := 0) (rest := []) (wr := [(a0, .inr (0, [.ref a3, .ref a4, .ref a5, .ref a6, .ref a7, .int (iI x0)])), (a2, .inr (9, [.ref a9, .ref a10, .ref a11, .ref a12, .ref a13, .ref a14, .ref a15, .ref a16, .ref a17, .int (iI x9), .int (iI x10), .int (iI x11), .int (iI x12), .int (iI x13), .int (iI x14), .int (iI x15), .int (iI x16), .int (iI x17)])), (a3, .inl (T 5, 40, .inr (.inr (.inr (.inr g0))))), (a5, .inl (T 0, 40, .inl (cI f0))), (a6, .inl (T 0, 40, .inl (cI f1))), (a8, .inl (T 0, 940, .inl (cI f2))), (a9, .inl (T 1, 9, .inr (.inl h0))), (a10, .inl (T 0, 9, .inl (cI f3))), (a11, .inl (T 0, 9, .inl (cI f4))), (a12, .inl (T 0, 9, .inl (cI f5))), (a13, .inl (T 0, 9, .inl (cI f6))), (a14, .inl (T 0, 9, .inl (cI f7))), (a15, .inl (T 0, 9, .inl (cI f8))), (a16, .inl (T 1, 3, .inr (.inl h1))), (a17, .inl (T 0, 3, .inl (cI f9)))]) (r_V (f := 0) [1] M w V_HookedCity_Book_68 G710 G711 (c271_X8_fail l D T _ a1 1 a8 x1 x2 x3 x4 x5 none y0 r0 x6 x7 x8 (by decide) (by decide) x1_a x1_b x2_a x2_b x3_a x3_b x4_a x4_b x5_a x5_b wok_n x6_a x6_b x7_a x7_b x8_a x8_b) 1 clX8 rfl rfl (by decide) rfl hl.1 rfl (Nat.le_of_ble_eq_true rfl) dX0_readDeed_21 (by decide) (by decide) (by decide) (by decide)) w [1] [0, 2, 3, 4, 5, 6, 7, 8, 9, 10, 11, 12, 13, 14, 15] rfl rfl (by decide) (by decide) rfl rfl (fun v u H locs hp w => ?_)
    obtain ⟨z2, z3, z4⟩ := u
    have hv : iI z2 = v := hp.1
    subst hv
    have z2_a : 0 ≤ z2 := hp.2.1
    have z2_b : z2 ≤ 1 := hp.2.2.1
    have z3_a : (-2147483648) ≤ z3 := hp.2.2.2.1
    have z3_b : z3 ≤ 2147483647 := hp.2.2.2.2.1
    have z4_a : 0 ≤ z4 := hp.2.2.2.2.2.1
    have z4_b : z4 ≤ 940 := hp.2.2.2.2.2.2.1
    have pq5 : z3 = 1 := hp.2.2.2.2.2.2.2.1
    have pq6 : z4 = x4 := hp.2.2.2.2.2.2.2.2.1
    have w : WD D A s.heap [(a0, .inr (0, [.ref a3, .ref a4, .ref a5, .ref a6, .ref a7, .int (iI x0)])), (a2, .inr (9, [.ref a9, .ref a10, .ref a11, .ref a12, .ref a13, .ref a14, .ref a15, .ref a16, .ref a17, .int (iI x9), .int (iI x10), .int (iI x11), .int (iI x12), .int (iI x13), .int (iI x14), .int (iI x15), .int (iI x16), .int (iI x17)])), (a3, .inl (T 5, 40, .inr (.inr (.inr (.inr g0))))), (a5, .inl (T 0, 40, .inl (cI f0))), (a6, .inl (T 0, 40, .inl (cI f1))), (a8, .inl (T 0, 940, .inl (cI f2))), (a9, .inl (T 1, 9, .inr (.inl h0))), (a10, .inl (T 0, 9, .inl (cI f3))), (a11, .inl (T 0, 9, .inl (cI f4))), (a12, .inl (T 0, 9, .inl (cI f5))), (a13, .inl (T 0, 9, .inl (cI f6))), (a14, .inl (T 0, 9, .inl (cI f7))), (a15, .inl (T 0, 9, .inl (cI f8))), (a16, .inl (T 1, 3, .inr (.inl h1))), (a17, .inl (T 0, 3, .inl (cI f9))), (a1, .inr (8, [.ref a8, .int (iI x1), .int (iI x2), .int (iI x3), .int (iI x4), .int (iI x5), (va_rf none), .long y0, .int r0, .int (iI x6), .int (iI z3), .int (iI z4)]))] H locs := w
    rcases hp.2.2.2.2.2.2.2.2.2 with hr
    · subst hr
      exact ret _ (0, x3, x4, x5, none, y0, r0, x6, z3, z4, g0, f0, f1) _ _ _ _ _ [0, 15, 1, 2, 3, 4, 5, 6, 7, 8, 9, 10, 11, 12, 13, 14] dX0_readDeed_24 (by decide +kernel) ⟨rfl, (show (0 : Int) ≤ 0 from by decide), (show (0 : Int) ≤ 1 from by decide), x3_a, x3_b, x4_a, x4_b, x5_a, x5_b, wok_n, x6_a, x6_b, z3_a, z3_b, z4_a, z4_b, g0_h, f0_h, f1_h, (show kpo x0 g0 g0 from kpo_rfl), (show kp x0 f0 f0 from kp_rfl), (show kp x0 f1 f1 from kp_rfl), (show 0 = 1 → ∀ a, 0 ≤ a → bk1 T (g0 (Int32.toNatClampNeg (iI x0))) a (f0 x0) (f1 x0) from (fun h => absurd h (by decide))), (show kpB 0 x7 z3 from (fun e => absurd e (by decide))), (show ∀ x : Tk × Int × Int, gC T x x5 x4 x3 y0 r0 x6 none → RS (bkD f2 x1 x2 (sNa h0 x9) (x, x0)) 0 z3 z4 (fun y => gC T y x5 x4 x3 y0 r0 x6 none) x0 from (fun x g => bd_n (cw_n g (j := 11) (by decide)) (cw_n g (j := 12) (by decide)) (by omega) (pq6.trans g.1)))⟩ w (by decide) rfl
  | some qq1 =>
    refine lv_astore_n (lv' := [(3, .ref qq1), (0, .ref a0), (1, .ref a1), (2, .ref a2)]) hx hb dX0_readDeed_4 rfl hl (by decide) rfl (fun ls hl => ?_)
    refine lv_aload_n hx hb dX0_readDeed_5 rfl (lv_at hl 0 rfl) ?_
    refine r_gets M w 11 rfl G1187 dX0_readDeed_6 ?_
    refine lv_acmp_eq (rx := (some qq1)) (ry := (some (T (10 + 11)))) (tgt := 25) hx hb dX0_readDeed_9 (by decide) (fun c_7 => ?_) (fun c_7 => ?_)
    · refine lv_aload_n hx hb dX0_readDeed_25 rfl (lv_at hl 1 rfl) ?_
      refine r_get (v := .ref a3) M w 0 0 clX0 rfl (by decide) G263 rfl rfl dX0_readDeed_26 ?_
      refine lv_aload_n hx hb dX0_readDeed_29 rfl (lv_at hl 1 rfl) ?_
      refine r_get (v := .int (iI x0)) M w 0 5 clX0 rfl (by decide) G269 rfl rfl dX0_readDeed_30 ?_
      refine lv_aload_n hx hb dX0_readDeed_33 rfl (lv_at hl 0 rfl) ?_
      refine r_wast (ws' := [(a0, .inr (0, [.ref a3, .ref a4, .ref a5, .ref a6, .ref a7, .int (iI x0)])), (a1, .inr (8, [.ref a8, .int (iI x1), .int (iI x2), .int (iI x3), .int (iI x4), .int (iI x5), .ref qq1, .long y0, .int r0, .int (iI x6), .int (iI x7), .int (iI x8)])), (a2, .inr (9, [.ref a9, .ref a10, .ref a11, .ref a12, .ref a13, .ref a14, .ref a15, .ref a16, .ref a17, .int (iI x9), .int (iI x10), .int (iI x11), .int (iI x12), .int (iI x13), .int (iI x14), .int (iI x15), .int (iI x16), .int (iI x17)])), (a3, .inl (T 5, 40, .inr (.inr (.inr (.inr (va_up g0 (Int32.toNatClampNeg (iI x0)) (some qq1))))))), (a5, .inl (T 0, 40, .inl (cI f0))), (a6, .inl (T 0, 40, .inl (cI f1))), (a8, .inl (T 0, 940, .inl (cI f2))), (a9, .inl (T 1, 9, .inr (.inl h0))), (a10, .inl (T 0, 9, .inl (cI f3))), (a11, .inl (T 0, 9, .inl (cI f4))), (a12, .inl (T 0, 9, .inl (cI f5))), (a13, .inl (T 0, 9, .inl (cI f6))), (a14, .inl (T 0, 9, .inl (cI f7))), (a15, .inl (T 0, 9, .inl (cI f8))), (a16, .inl (T 1, 3, .inr (.inl h1))), (a17, .inl (T 0, 3, .inl (cI f9)))]) M w 3 rfl o0_h (iI_in (by omega) (by omega) (by decide)) rfl dX0_readDeed_34 (fun H locs w => ?_)
      refine lv_aload_n hx hb dX0_readDeed_35 rfl (lv_at hl 2 rfl) ?_
      refine k_V (ce := 0) (sl := 0) (rest := []) (wr := [(a0, .inr (0, [.ref a3, .ref a4, .ref a5, .ref a6, .ref a7, .int (iI x0)])), (a2, .inr (9, [.ref a9, .ref a10, .ref a11, .ref a12, .ref a13, .ref a14, .ref a15, .ref a16, .ref a17, .int (iI x9), .int (iI x10), .int (iI x11), .int (iI x12), .int (iI x13), .int (iI x14), .int (iI x15), .int (iI x16), .int (iI x17)])), (a3, .inl (T 5, 40, .inr (.inr (.inr (.inr (va_up g0 (Int32.toNatClampNeg (iI x0)) (some qq1))))))), (a5, .inl (T 0, 40, .inl (cI f0))), (a6, .inl (T 0, 40, .inl (cI f1))), (a9, .inl (T 1, 9, .inr (.inl h0))), (a10, .inl (T 0, 9, .inl (cI f3))), (a11, .inl (T 0, 9, .inl (cI f4))), (a12, .inl (T 0, 9, .inl (cI f5))), (a13, .inl (T 0, 9, .inl (cI f6))), (a14, .inl (T 0, 9, .inl (cI f7))), (a15, .inl (T 0, 9, .inl (cI f8))), (a16, .inl (T 1, 3, .inr (.inl h1))), (a17, .inl (T 0, 3, .inl (cI f9)))]) (r_V (f := 4) [1, 6] M w V_HookedCity_Book_72 G587 G588 (c266_X8_step l D T _ a1 a8 x1 x2 x3 x4 x5 (some qq1) y0 r0 x6 x7 x8 f2 x1_a x1_b x2_a x2_b x3_a x3_b x4_a x4_b x5_a x5_b o0_h x6_a x6_b x7_a x7_b x8_a x8_b f2_h) 1 clX8 rfl rfl (by decide) rfl hl.1 rfl (Nat.le_of_ble_eq_true rfl) dX0_readDeed_36 (by decide) (by decide) (by decide) (by decide)) w [1, 6] [0, 2, 3, 4, 5, 7, 8, 9, 10, 11, 12, 13, 14, 15] rfl rfl (by decide) (by decide) rfl rfl (fun u H locs hp w => ?_)
      obtain ⟨z8, z9, z10, fo11, fy12, fr13, z14⟩ := u
      have z8_a : 0 ≤ z8 := hp.1
      have z8_b : z8 ≤ 940 := hp.2.1
      have z9_a : 0 ≤ z9 := hp.2.2.1
      have z9_b : z9 ≤ 940 := hp.2.2.2.1
      have z10_a : 0 ≤ z10 := hp.2.2.2.2.1
      have z10_b : z10 ≤ 5 := hp.2.2.2.2.2.1
      have fo11_h : wok T fo11 := hp.2.2.2.2.2.2.1
      have z14_a : (-2147483648) ≤ z14 := hp.2.2.2.2.2.2.2.1
      have z14_b : z14 ≤ 2147483647 := hp.2.2.2.2.2.2.2.2.1
      have pq15 : gC T (tkAt f2 x1 x2 x3) z10 z9 z8 fy12 fr13 z14 fo11 := hp.2.2.2.2.2.2.2.2.2
      have w : WD D A s.heap [(a0, .inr (0, [.ref a3, .ref a4, .ref a5, .ref a6, .ref a7, .int (iI x0)])), (a2, .inr (9, [.ref a9, .ref a10, .ref a11, .ref a12, .ref a13, .ref a14, .ref a15, .ref a16, .ref a17, .int (iI x9), .int (iI x10), .int (iI x11), .int (iI x12), .int (iI x13), .int (iI x14), .int (iI x15), .int (iI x16), .int (iI x17)])), (a3, .inl (T 5, 40, .inr (.inr (.inr (.inr (va_up g0 (Int32.toNatClampNeg (iI x0)) (some qq1))))))), (a5, .inl (T 0, 40, .inl (cI f0))), (a6, .inl (T 0, 40, .inl (cI f1))), (a9, .inl (T 1, 9, .inr (.inl h0))), (a10, .inl (T 0, 9, .inl (cI f3))), (a11, .inl (T 0, 9, .inl (cI f4))), (a12, .inl (T 0, 9, .inl (cI f5))), (a13, .inl (T 0, 9, .inl (cI f6))), (a14, .inl (T 0, 9, .inl (cI f7))), (a15, .inl (T 0, 9, .inl (cI f8))), (a16, .inl (T 1, 3, .inr (.inl h1))), (a17, .inl (T 0, 3, .inl (cI f9))), (a1, .inr (8, [.ref a8, .int (iI x1), .int (iI x2), .int (iI z8), .int (iI z9), .int (iI z10), (va_rf fo11), .long fy12, .int fr13, .int (iI z14), .int (iI x7), .int (iI x8)])), (a8, .inl (T 0, 940, .inl (cI f2)))] H locs := w
      refine lv_aload_n hx hb dX0_readDeed_39 rfl (lv_at hl 1 rfl) ?_
      refine lv_aload_n hx hb dX0_readDeed_40 rfl (lv_at hl 2 rfl) ?_
      refine lv_aload_n hx hb dX0_readDeed_41 rfl (lv_at hl 3 rfl) ?_
      refine k_I (ce := 0) (sl := 0) (rest := []) (wr := [(a3, .inl (T 5, 40, .inr (.inr (.inr (.inr (va_up g0 (Int32.toNatClampNeg (iI x0)) (some qq1))))))), (a6, .inl (T 0, 40, .inl (cI f1)))]) (r_V (f := 5) [0, 14, 1, 3, 15, 5, 6, 7, 8, 9, 10, 11, 12, 13] M w V_HookedCity_Book_82 G1193 G32 (c403_X0_readFirst l D T _ a0 a1 a2 a3 a4 a5 a6 a7 x0 a8 x1 x2 z8 z9 z10 fo11 fy12 fr13 z14 x7 x8 a9 a10 a11 a12 a13 a14 a15 a16 a17 x9 x10 x11 x12 x13 x14 x15 x16 x17 f0 f2 h0 f3 f4 f5 f6 f7 f8 h1 f9 x0_a x0_b x1_a x1_b x2_a x2_b z8_a z8_b z9_a z9_b z10_a z10_b fo11_h z14_a z14_b x7_a x7_b x8_a x8_b x9_a x9_b x10_a x10_b x11_a x11_b x12_a x12_b x13_a x13_b x14_a x14_b x15_a x15_b x16_a x16_b x17_a x17_b f0_h f2_h f3_h f4_h f5_h f6_h f7_h f8_h f9_h) 0 clX0 rfl rfl (by decide) rfl hl.1 rfl (Nat.le_of_ble_eq_true rfl) dX0_readDeed_42 (by decide) (by decide) (by decide) (by decide)) w [0, 14, 1, 3, 15, 5, 6, 7, 8, 9, 10, 11, 12, 13] [2, 4] rfl rfl (by decide) (by decide) rfl rfl (fun v u H locs hp w => ?_)
      obtain ⟨z16, z17, z18, z19, fo20, fy21, fr22, z23, z24, z25, ff26⟩ := u
      have hv : iI z16 = v := hp.1
      subst hv
      have z16_a : 0 ≤ z16 := hp.2.1
      have z16_b : z16 ≤ 1 := hp.2.2.1
      have z17_a : 0 ≤ z17 := hp.2.2.2.1
      have z17_b : z17 ≤ 940 := hp.2.2.2.2.1
      have z18_a : 0 ≤ z18 := hp.2.2.2.2.2.1
      have z18_b : z18 ≤ 940 := hp.2.2.2.2.2.2.1
      have z19_a : 0 ≤ z19 := hp.2.2.2.2.2.2.2.1
      have z19_b : z19 ≤ 5 := hp.2.2.2.2.2.2.2.2.1
      have fo20_h : wok T fo20 := hp.2.2.2.2.2.2.2.2.2.1
      have z23_a : (-2147483648) ≤ z23 := hp.2.2.2.2.2.2.2.2.2.2.1
      have z23_b : z23 ≤ 2147483647 := hp.2.2.2.2.2.2.2.2.2.2.2.1
      have z24_a : (-2147483648) ≤ z24 := hp.2.2.2.2.2.2.2.2.2.2.2.2.1
      have z24_b : z24 ≤ 2147483647 := hp.2.2.2.2.2.2.2.2.2.2.2.2.2.1
      have z25_a : 0 ≤ z25 := hp.2.2.2.2.2.2.2.2.2.2.2.2.2.2.1
      have z25_b : z25 ≤ 940 := hp.2.2.2.2.2.2.2.2.2.2.2.2.2.2.2.1
      have ff26_h : rng (-2147483648) 2147483647 ff26 := hp.2.2.2.2.2.2.2.2.2.2.2.2.2.2.2.2.1
      have pq27 : kp x0 f0 ff26 := hp.2.2.2.2.2.2.2.2.2.2.2.2.2.2.2.2.2.1
      have pq28 : z16 = 1 → 0 ≤ ff26 x0 ∧ ff26 x0 ≤ 8 := hp.2.2.2.2.2.2.2.2.2.2.2.2.2.2.2.2.2.2.1
      have pq29 : kpB z16 x7 z24 := hp.2.2.2.2.2.2.2.2.2.2.2.2.2.2.2.2.2.2.2.1
      have pq30 : ∀ x : Tk × Int × Int, gC T x z10 z9 z8 fy12 fr13 z14 fo11 → RS (bkP f2 x1 x2 (sNa h0 x9) (x, x0)) z16 z24 z25 (fun y => gC T y z19 z18 z17 fy21 fr22 z23 fo20) x0 := hp.2.2.2.2.2.2.2.2.2.2.2.2.2.2.2.2.2.2.2.2
      have w : WD D A s.heap [(a3, .inl (T 5, 40, .inr (.inr (.inr (.inr (va_up g0 (Int32.toNatClampNeg (iI x0)) (some qq1))))))), (a6, .inl (T 0, 40, .inl (cI f1))), (a0, .inr (0, [.ref a3, .ref a4, .ref a5, .ref a6, .ref a7, .int (iI x0)])), (a1, .inr (8, [.ref a8, .int (iI x1), .int (iI x2), .int (iI z17), .int (iI z18), .int (iI z19), (va_rf fo20), .long fy21, .int fr22, .int (iI z23), .int (iI z24), .int (iI z25)])), (a2, .inr (9, [.ref a9, .ref a10, .ref a11, .ref a12, .ref a13, .ref a14, .ref a15, .ref a16, .ref a17, .int (iI x9), .int (iI x10), .int (iI x11), .int (iI x12), .int (iI x13), .int (iI x14), .int (iI x15), .int (iI x16), .int (iI x17)])), (a5, .inl (T 0, 40, .inl (cI ff26))), (a8, .inl (T 0, 940, .inl (cI f2))), (a9, .inl (T 1, 9, .inr (.inl h0))), (a10, .inl (T 0, 9, .inl (cI f3))), (a11, .inl (T 0, 9, .inl (cI f4))), (a12, .inl (T 0, 9, .inl (cI f5))), (a13, .inl (T 0, 9, .inl (cI f6))), (a14, .inl (T 0, 9, .inl (cI f7))), (a15, .inl (T 0, 9, .inl (cI f8))), (a16, .inl (T 1, 3, .inr (.inl h1))), (a17, .inl (T 0, 3, .inl (cI f9)))] H locs := w
      refine lv_if_ne (tgt := 50) hx hb dX0_readDeed_45 (by decide) (fun c_31 => ?_) (fun c_31 => ?_)
      · replace c_31 : ¬ z16 = 0 := fun h => c_31 ((iz_eq (Int.le_trans (by decide) z16_a) (Int.le_trans z16_b (by decide))).mpr h)
        refine lv_aload_n hx hb dX0_readDeed_50 rfl (lv_at hl 0 rfl) ?_
        refine r_gets M w 12 rfl G1189 dX0_readDeed_51 ?_
        refine lv_acmp_ne (rx := (some qq1)) (ry := (some (T (10 + 12)))) (tgt := 59) hx hb dX0_readDeed_54 (by decide) (fun c_32 => ?_) (fun c_32 => ?_)
        · refine lv_aload_n hx hb dX0_readDeed_59 rfl (lv_at hl 1 rfl) ?_
          refine r_get (v := .ref a6) M w 2 3 clX0 rfl (by decide) G266 rfl rfl dX0_readDeed_60 ?_
          refine lv_aload_n hx hb dX0_readDeed_63 rfl (lv_at hl 1 rfl) ?_
          refine r_get (v := .int (iI x0)) M w 2 5 clX0 rfl (by decide) G269 rfl rfl dX0_readDeed_64 ?_
          refine lv_aload_n hx hb dX0_readDeed_67 rfl (lv_at hl 3 rfl) ?_
          refine lv_aload_n hx hb dX0_readDeed_68 rfl (lv_at hl 2 rfl) ?_
          refine k_I (ce := 0) (sl := 0) (rest := [.int (iI x0), .ref a6]) (wr := [(a3, .inl (T 5, 40, .inr (.inr (.inr (.inr (va_up g0 (Int32.toNatClampNeg (iI x0)) (some qq1))))))), (a6, .inl (T 0, 40, .inl (cI f1))), (a0, .inr (0, [.ref a3, .ref a4, .ref a5, .ref a6, .ref a7, .int (iI x0)])), (a5, .inl (T 0, 40, .inl (cI ff26)))]) (r_V (f := 2) [4, 3, 7, 8, 9, 10, 11, 12, 13, 14, 15, 6] M w V_HookedCity_Book_91 G743 G744 (c284_X9_personAt l D T _ a2 a1 a9 a10 a11 a12 a13 a14 a15 a16 a17 x9 x10 x11 x12 x13 x14 x15 x16 x17 a8 x1 x2 z17 z18 z19 fo20 fy21 fr22 z23 z24 z25 h0 f3 f4 f5 f6 f7 f8 h1 f9 f2 x9_a x9_b x10_a x10_b x11_a x11_b x12_a x12_b x13_a x13_b x14_a x14_b x15_a x15_b x16_a x16_b x17_a x17_b x1_a x1_b x2_a x2_b z17_a z17_b z18_a z18_b z19_a z19_b fo20_h z23_a z23_b z24_a z24_b z25_a z25_b f3_h f4_h f5_h f6_h f7_h f8_h f9_h f2_h) 4 clX9 rfl rfl (by decide) rfl hl.1 rfl (Nat.le_of_ble_eq_true rfl) dX0_readDeed_69 (by decide) (by decide) (by decide) (by decide)) w [4, 3, 7, 8, 9, 10, 11, 12, 13, 14, 15, 6] [0, 1, 2, 5] rfl rfl (by decide) (by decide) rfl rfl (fun v u H locs hp w => ?_)
          obtain ⟨z33, z34, z35⟩ := u
          have hv : iI z33 = v := hp.1
          subst hv
          have z33_a : (-1) ≤ z33 := hp.2.1
          have z33_b : z33 ≤ 8 := hp.2.2.1
          have z34_a : (-2147483648) ≤ z34 := hp.2.2.2.1
          have z34_b : z34 ≤ 2147483647 := hp.2.2.2.2.1
          have z35_a : 0 ≤ z35 := hp.2.2.2.2.2.1
          have z35_b : z35 ≤ 940 := hp.2.2.2.2.2.2.1
          have ee36 : 0 ≤ ((x9 - z33) - 1) := hp.2.2.2.2.2.2.2.1
          have pq37 : ∀ (x : Tk × Int × Int) (rd : Int → Int) (h : Nat → Int64) (o : Int → Int), gC T x z19 z18 z17 fy21 fr22 z23 fo20 → XW rd h o h0 f3 f4 f5 f6 f7 f8 h1 f9 x9 x10 x12 x13 x14 x15 x16 x17 → XV (sOne rd h x) z33 z34 z35 := hp.2.2.2.2.2.2.2.2.1
          have pq38 : ∀ x : Tk × Int × Int, gC T x z19 z18 z17 fy21 fr22 z23 fo20 → XV ((sNa h0 x9) x) z33 z34 z35 := hp.2.2.2.2.2.2.2.2.2.1
          have pq39 : kpF z33 z24 z34 := hp.2.2.2.2.2.2.2.2.2.2
          have w : WD D A s.heap [(a3, .inl (T 5, 40, .inr (.inr (.inr (.inr (va_up g0 (Int32.toNatClampNeg (iI x0)) (some qq1))))))), (a6, .inl (T 0, 40, .inl (cI f1))), (a0, .inr (0, [.ref a3, .ref a4, .ref a5, .ref a6, .ref a7, .int (iI x0)])), (a5, .inl (T 0, 40, .inl (cI ff26))), (a2, .inr (9, [.ref a9, .ref a10, .ref a11, .ref a12, .ref a13, .ref a14, .ref a15, .ref a16, .ref a17, .int (iI x9), .int (iI x10), .int (iI x11), .int (iI x12), .int (iI x13), .int (iI x14), .int (iI x15), .int (iI x16), .int (iI x17)])), (a1, .inr (8, [.ref a8, .int (iI x1), .int (iI x2), .int (iI z17), .int (iI z18), .int (iI z19), (va_rf fo20), .long fy21, .int fr22, .int (iI z23), .int (iI z34), .int (iI z35)])), (a9, .inl (T 1, 9, .inr (.inl h0))), (a10, .inl (T 0, 9, .inl (cI f3))), (a11, .inl (T 0, 9, .inl (cI f4))), (a12, .inl (T 0, 9, .inl (cI f5))), (a13, .inl (T 0, 9, .inl (cI f6))), (a14, .inl (T 0, 9, .inl (cI f7))), (a15, .inl (T 0, 9, .inl (cI f8))), (a16, .inl (T 1, 3, .inr (.inl h1))), (a17, .inl (T 0, 3, .inl (cI f9))), (a8, .inl (T 0, 940, .inl (cI f2)))] H locs := w
          refine r_iast (ws' := [(a3, .inl (T 5, 40, .inr (.inr (.inr (.inr (va_up g0 (Int32.toNatClampNeg (iI x0)) (some qq1))))))), (a6, .inl (T 0, 40, .inl (cI (upz f1 x0 z33)))), (a0, .inr (0, [.ref a3, .ref a4, .ref a5, .ref a6, .ref a7, .int (iI x0)])), (a5, .inl (T 0, 40, .inl (cI ff26))), (a2, .inr (9, [.ref a9, .ref a10, .ref a11, .ref a12, .ref a13, .ref a14, .ref a15, .ref a16, .ref a17, .int (iI x9), .int (iI x10), .int (iI x11), .int (iI x12), .int (iI x13), .int (iI x14), .int (iI x15), .int (iI x16), .int (iI x17)])), (a1, .inr (8, [.ref a8, .int (iI x1), .int (iI x2), .int (iI z17), .int (iI z18), .int (iI z19), (va_rf fo20), .long fy21, .int fr22, .int (iI z23), .int (iI z34), .int (iI z35)])), (a9, .inl (T 1, 9, .inr (.inl h0))), (a10, .inl (T 0, 9, .inl (cI f3))), (a11, .inl (T 0, 9, .inl (cI f4))), (a12, .inl (T 0, 9, .inl (cI f5))), (a13, .inl (T 0, 9, .inl (cI f6))), (a14, .inl (T 0, 9, .inl (cI f7))), (a15, .inl (T 0, 9, .inl (cI f8))), (a16, .inl (T 1, 3, .inr (.inl h1))), (a17, .inl (T 0, 3, .inl (cI f9))), (a8, .inl (T 0, 940, .inl (cI f2)))]) M w 1 rfl (iI_in (by omega) (by omega) (by decide)) (by rw [cI_up (by omega) (by omega)]; rfl) dX0_readDeed_72 (fun H locs w => ?_)
          refine lv_aload_n hx hb dX0_readDeed_73 rfl (lv_at hl 1 rfl) ?_
          refine r_get (v := .ref a6) M w 2 3 clX0 rfl (by decide) G266 rfl rfl dX0_readDeed_74 ?_
          refine lv_aload_n hx hb dX0_readDeed_77 rfl (lv_at hl 1 rfl) ?_
          refine r_get (v := .int (iI x0)) M w 2 5 clX0 rfl (by decide) G269 rfl rfl dX0_readDeed_78 ?_
          refine r_iald (v := iI z33) M w 1 rfl (iI_in (by omega) (by omega) (by decide)) ((cI_at (by omega) (by omega)).trans (congrArg iI (by rw [upz_s]))) dX0_readDeed_81 ?_
          refine lv_iconst (v := iI (-1)) hx hb dX0_readDeed_82 (by decide +kernel) ?_
          refine lv_icmp_ne (tgt := 88) hx hb dX0_readDeed_83 (by decide) (fun c_40 => ?_) (fun c_40 => ?_)
          · replace c_40 : ¬ z33 = (-1) := fun h => c_40 ((iI_eq (Int.le_trans (by decide) z33_a) (Int.le_trans z33_b (by decide)) (by decide) (by decide)).mpr h)
            refine lv_aload_n hx hb dX0_readDeed_88 rfl (lv_at hl 2 rfl) ?_
            refine k_V (ce := 0) (sl := 0) (rest := []) (wr := [(a3, .inl (T 5, 40, .inr (.inr (.inr (.inr (va_up g0 (Int32.toNatClampNeg (iI x0)) (some qq1))))))), (a6, .inl (T 0, 40, .inl (cI (upz f1 x0 z33)))), (a0, .inr (0, [.ref a3, .ref a4, .ref a5, .ref a6, .ref a7, .int (iI x0)])), (a5, .inl (T 0, 40, .inl (cI ff26))), (a2, .inr (9, [.ref a9, .ref a10, .ref a11, .ref a12, .ref a13, .ref a14, .ref a15, .ref a16, .ref a17, .int (iI x9), .int (iI x10), .int (iI x11), .int (iI x12), .int (iI x13), .int (iI x14), .int (iI x15), .int (iI x16), .int (iI x17)])), (a9, .inl (T 1, 9, .inr (.inl h0))), (a10, .inl (T 0, 9, .inl (cI f3))), (a11, .inl (T 0, 9, .inl (cI f4))), (a12, .inl (T 0, 9, .inl (cI f5))), (a13, .inl (T 0, 9, .inl (cI f6))), (a14, .inl (T 0, 9, .inl (cI f7))), (a15, .inl (T 0, 9, .inl (cI f8))), (a16, .inl (T 1, 3, .inr (.inl h1))), (a17, .inl (T 0, 3, .inl (cI f9)))]) (r_V (f := 4) [5, 15] M w V_HookedCity_Book_72 G587 G588 (c266_X8_step l D T _ a1 a8 x1 x2 z17 z18 z19 fo20 fy21 fr22 z23 z34 z35 f2 x1_a x1_b x2_a x2_b z17_a z17_b z18_a z18_b z19_a z19_b fo20_h z23_a z23_b z34_a z34_b z35_a z35_b f2_h) 5 clX8 rfl rfl (by decide) rfl hl.1 rfl (Nat.le_of_ble_eq_true rfl) dX0_readDeed_89 (by decide) (by decide) (by decide) (by decide)) w [5, 15] [0, 1, 2, 3, 4, 6, 7, 8, 9, 10, 11, 12, 13, 14] rfl rfl (by decide) (by decide) rfl rfl (fun u H locs hp w => ?_)
            obtain ⟨z41, z42, z43, fo44, fy45, fr46, z47⟩ := u
            have z41_a : 0 ≤ z41 := hp.1
            have z41_b : z41 ≤ 940 := hp.2.1
            have z42_a : 0 ≤ z42 := hp.2.2.1
            have z42_b : z42 ≤ 940 := hp.2.2.2.1
            have z43_a : 0 ≤ z43 := hp.2.2.2.2.1
            have z43_b : z43 ≤ 5 := hp.2.2.2.2.2.1
            have fo44_h : wok T fo44 := hp.2.2.2.2.2.2.1
            have z47_a : (-2147483648) ≤ z47 := hp.2.2.2.2.2.2.2.1
            have z47_b : z47 ≤ 2147483647 := hp.2.2.2.2.2.2.2.2.1
            have pq48 : gC T (tkAt f2 x1 x2 z17) z43 z42 z41 fy45 fr46 z47 fo44 := hp.2.2.2.2.2.2.2.2.2
            have w : WD D A s.heap [(a3, .inl (T 5, 40, .inr (.inr (.inr (.inr (va_up g0 (Int32.toNatClampNeg (iI x0)) (some qq1))))))), (a6, .inl (T 0, 40, .inl (cI (upz f1 x0 z33)))), (a0, .inr (0, [.ref a3, .ref a4, .ref a5, .ref a6, .ref a7, .int (iI x0)])), (a5, .inl (T 0, 40, .inl (cI ff26))), (a2, .inr (9, [.ref a9, .ref a10, .ref a11, .ref a12, .ref a13, .ref a14, .ref a15, .ref a16, .ref a17, .int (iI x9), .int (iI x10), .int (iI x11), .int (iI x12), .int (iI x13), .int (iI x14), .int (iI x15), .int (iI x16), .int (iI x17)])), (a9, .inl (T 1, 9, .inr (.inl h0))), (a10, .inl (T 0, 9, .inl (cI f3))), (a11, .inl (T 0, 9, .inl (cI f4))), (a12, .inl (T 0, 9, .inl (cI f5))), (a13, .inl (T 0, 9, .inl (cI f6))), (a14, .inl (T 0, 9, .inl (cI f7))), (a15, .inl (T 0, 9, .inl (cI f8))), (a16, .inl (T 1, 3, .inr (.inl h1))), (a17, .inl (T 0, 3, .inl (cI f9))), (a1, .inr (8, [.ref a8, .int (iI x1), .int (iI x2), .int (iI z41), .int (iI z42), .int (iI z43), (va_rf fo44), .long fy45, .int fr46, .int (iI z47), .int (iI z34), .int (iI z35)])), (a8, .inl (T 0, 940, .inl (cI f2)))] H locs := w
            refine lv_iconst (v := iI 1) hx hb dX0_readDeed_92 (by decide +kernel) ?_
            exact ret _ (1, z41, z42, z43, fo44, fy45, fr46, z47, z34, z35, (va_up g0 (Int32.toNatClampNeg (iI x0)) (some qq1)), ff26, (upz f1 x0 z33)) _ _ _ _ _ [2, 14, 4, 0, 3, 1, 15, 5, 6, 7, 8, 9, 10, 11, 12, 13] dX0_readDeed_93 (by decide +kernel) ⟨rfl, (show (0 : Int) ≤ 1 from by decide), (show (1 : Int) ≤ 1 from by decide), z41_a, z41_b, z42_a, z42_b, z43_a, z43_b, fo44_h, z47_a, z47_b, z34_a, z34_b, z35_a, z35_b, (woks_up g0_h o0_h), ff26_h, (rng_up f1_h (by omega) (by omega)), (show kpo x0 g0 (va_up g0 (Int32.toNatClampNeg (iI x0)) (some qq1)) from (kpo_up kpo_rfl (by omega) (by omega) (by omega))), (show kp x0 f0 ff26 from pq27), (show kp x0 f1 (upz f1 x0 z33) from (kp_up kp_rfl (by omega))), (show 1 = 1 → ∀ a, 0 ≤ a → bk1 T ((va_up g0 (Int32.toNatClampNeg (iI x0)) (some qq1)) (Int32.toNatClampNeg (iI x0))) a (ff26 x0) ((upz f1 x0 z33) x0) from (fun _ a ha => by rw [va_up_self]; exact bk1_b M.2.2.2.2.2.2.2.2.2 c_7 ha (pq28 (by omega)) (by have e9 := upz_s f1 x0 z33; omega))), (show kpB 1 x7 z34 from (fun hr => by have y1 := pq29 (by omega); have y2 := pq39 (by omega); omega)), (show ∀ x : Tk × Int × Int, gC T x x5 x4 x3 y0 r0 x6 (some qq1) → RS (bkD f2 x1 x2 (sNa h0 x9) (x, x0)) 1 z34 z35 (fun y => gC T y z43 z42 z41 fy45 fr46 z47 fo44) x0 from (fun x g => bd_b (cw_1 M.2.2.2.2.2.2.2.2.2 g (j := 11) (by decide) c_7) (bnS_1 (pq30 _ (gC_nx g pq15)) (by omega) (fun y hy => bnX_1 (pq38 y hy) (by omega) (fun _ => ⟨rfl, gC_nx hy pq48, rfl⟩)))))⟩ w (by decide) rfl
          · replace c_40 := (iI_eq (Int.le_trans (by decide) z33_a) (Int.le_trans z33_b (by decide)) (by decide) (by decide)).mp c_40
            refine lv_iconst (v := iI 0) hx hb dX0_readDeed_86 (by decide +kernel) ?_
            exact ret _ (0, z17, z18, z19, fo20, fy21, fr22, z23, z34, z35, (va_up g0 (Int32.toNatClampNeg (iI x0)) (some qq1)), ff26, (upz f1 x0 z33)) _ _ _ _ _ [2, 5, 4, 0, 3, 1, 15, 6, 7, 8, 9, 10, 11, 12, 13, 14] dX0_readDeed_87 (by decide +kernel) ⟨rfl, (show (0 : Int) ≤ 0 from by decide), (show (0 : Int) ≤ 1 from by decide), z17_a, z17_b, z18_a, z18_b, z19_a, z19_b, fo20_h, z23_a, z23_b, z34_a, z34_b, z35_a, z35_b, (woks_up g0_h o0_h), ff26_h, (rng_up f1_h (by omega) (by omega)), (show kpo x0 g0 (va_up g0 (Int32.toNatClampNeg (iI x0)) (some qq1)) from (kpo_up kpo_rfl (by omega) (by omega) (by omega))), (show kp x0 f0 ff26 from pq27), (show kp x0 f1 (upz f1 x0 z33) from (kp_up kp_rfl (by omega))), (show 0 = 1 → ∀ a, 0 ≤ a → bk1 T ((va_up g0 (Int32.toNatClampNeg (iI x0)) (some qq1)) (Int32.toNatClampNeg (iI x0))) a (ff26 x0) ((upz f1 x0 z33) x0) from (fun h => absurd h (by decide))), (show kpB 0 x7 z34 from (fun e => absurd e (by decide))), (show ∀ x : Tk × Int × Int, gC T x x5 x4 x3 y0 r0 x6 (some qq1) → RS (bkD f2 x1 x2 (sNa h0 x9) (x, x0)) 0 z34 z35 (fun y => gC T y z19 z18 z17 fy21 fr22 z23 fo20) x0 from (fun x g => bd_b (cw_1 M.2.2.2.2.2.2.2.2.2 g (j := 11) (by decide) c_7) (bnS_1 (pq30 _ (gC_nx g pq15)) (by omega) (fun y hy => bnX_0 (pq38 y hy) (by omega)))))⟩ w (by decide) rfl
        · refine lv_iconst (v := iI 1) hx hb dX0_readDeed_57 (by decide +kernel) ?_
          exact ret _ (1, z17, z18, z19, fo20, fy21, fr22, z23, z24, z25, (va_up g0 (Int32.toNatClampNeg (iI x0)) (some qq1)), ff26, f1) _ _ _ _ _ [2, 3, 4, 0, 5, 1, 6, 7, 8, 9, 10, 11, 12, 13, 14, 15] dX0_readDeed_58 (by decide +kernel) ⟨rfl, (show (0 : Int) ≤ 1 from by decide), (show (1 : Int) ≤ 1 from by decide), z17_a, z17_b, z18_a, z18_b, z19_a, z19_b, fo20_h, z23_a, z23_b, z24_a, z24_b, z25_a, z25_b, (woks_up g0_h o0_h), ff26_h, f1_h, (show kpo x0 g0 (va_up g0 (Int32.toNatClampNeg (iI x0)) (some qq1)) from (kpo_up kpo_rfl (by omega) (by omega) (by omega))), (show kp x0 f0 ff26 from pq27), (show kp x0 f1 f1 from kp_rfl), (show 1 = 1 → ∀ a, 0 ≤ a → bk1 T ((va_up g0 (Int32.toNatClampNeg (iI x0)) (some qq1)) (Int32.toNatClampNeg (iI x0))) a (ff26 x0) (f1 x0) from (fun _ a ha => by rw [va_up_self]; exact bk1_l M.2.2.2.2.2.2.2.2.2 c_32 ha (pq28 (by omega)))), (show kpB 1 x7 z24 from (fun hr => by have y1 := pq29 (by omega); omega)), (show ∀ x : Tk × Int × Int, gC T x x5 x4 x3 y0 r0 x6 (some qq1) → RS (bkD f2 x1 x2 (sNa h0 x9) (x, x0)) 1 z24 z25 (fun y => gC T y z19 z18 z17 fy21 fr22 z23 fo20) x0 from (fun x g => absurd (c_7.symm.trans c_32) (fun e => absurd (M.2.2.2.2.2.2.2.2.2 11 12 (by decide) (by decide) (Option.some.inj e)) (by decide))))⟩ w (by decide) rfl
      · replace c_31 := (iz_eq (Int.le_trans (by decide) z16_a) (Int.le_trans z16_b (by decide))).mp c_31
        refine lv_iconst (v := iI 0) hx hb dX0_readDeed_48 (by decide +kernel) ?_
        exact ret _ (0, z17, z18, z19, fo20, fy21, fr22, z23, z24, z25, (va_up g0 (Int32.toNatClampNeg (iI x0)) (some qq1)), ff26, f1) _ _ _ _ _ [2, 3, 4, 0, 5, 1, 6, 7, 8, 9, 10, 11, 12, 13, 14, 15] dX0_readDeed_49 (by decide +kernel) ⟨rfl, (show (0 : Int) ≤ 0 from by decide), (show (0 : Int) ≤ 1 from by decide), z17_a, z17_b, z18_a, z18_b, z19_a, z19_b, fo20_h, z23_a, z23_b, z24_a, z24_b, z25_a, z25_b, (woks_up g0_h o0_h), ff26_h, f1_h, (show kpo x0 g0 (va_up g0 (Int32.toNatClampNeg (iI x0)) (some qq1)) from (kpo_up kpo_rfl (by omega) (by omega) (by omega))), (show kp x0 f0 ff26 from pq27), (show kp x0 f1 f1 from kp_rfl), (show 0 = 1 → ∀ a, 0 ≤ a → bk1 T ((va_up g0 (Int32.toNatClampNeg (iI x0)) (some qq1)) (Int32.toNatClampNeg (iI x0))) a (ff26 x0) (f1 x0) from (fun h => absurd h (by decide))), (show kpB 0 x7 z24 from (fun e => absurd e (by decide))), (show ∀ x : Tk × Int × Int, gC T x x5 x4 x3 y0 r0 x6 (some qq1) → RS (bkD f2 x1 x2 (sNa h0 x9) (x, x0)) 0 z24 z25 (fun y => gC T y z19 z18 z17 fy21 fr22 z23 fo20) x0 from (fun x g => bd_b (cw_1 M.2.2.2.2.2.2.2.2.2 g (j := 11) (by decide) c_7) (bnS_0 (pq30 _ (gC_nx g pq15)) (by omega))))⟩ w (by decide) rfl
    · refine lv_aload_n hx hb dX0_readDeed_12 rfl (lv_at hl 0 rfl) ?_
      refine r_gets M w 12 rfl G1189 dX0_readDeed_13 ?_
      refine lv_acmp_eq (rx := (some qq1)) (ry := (some (T (10 + 12)))) (tgt := 25) hx hb dX0_readDeed_16 (by decide) (fun c_49 => ?_) (fun c_49 => ?_)
      · refine lv_aload_n hx hb dX0_readDeed_25 rfl (lv_at hl 1 rfl) ?_
        refine r_get (v := .ref a3) M w 0 0 clX0 rfl (by decide) G263 rfl rfl dX0_readDeed_26 ?_
        refine lv_aload_n hx hb dX0_readDeed_29 rfl (lv_at hl 1 rfl) ?_
        refine r_get (v := .int (iI x0)) M w 0 5 clX0 rfl (by decide) G269 rfl rfl dX0_readDeed_30 ?_
        refine lv_aload_n hx hb dX0_readDeed_33 rfl (lv_at hl 0 rfl) ?_
        refine r_wast (ws' := [(a0, .inr (0, [.ref a3, .ref a4, .ref a5, .ref a6, .ref a7, .int (iI x0)])), (a1, .inr (8, [.ref a8, .int (iI x1), .int (iI x2), .int (iI x3), .int (iI x4), .int (iI x5), .ref qq1, .long y0, .int r0, .int (iI x6), .int (iI x7), .int (iI x8)])), (a2, .inr (9, [.ref a9, .ref a10, .ref a11, .ref a12, .ref a13, .ref a14, .ref a15, .ref a16, .ref a17, .int (iI x9), .int (iI x10), .int (iI x11), .int (iI x12), .int (iI x13), .int (iI x14), .int (iI x15), .int (iI x16), .int (iI x17)])), (a3, .inl (T 5, 40, .inr (.inr (.inr (.inr (va_up g0 (Int32.toNatClampNeg (iI x0)) (some qq1))))))), (a5, .inl (T 0, 40, .inl (cI f0))), (a6, .inl (T 0, 40, .inl (cI f1))), (a8, .inl (T 0, 940, .inl (cI f2))), (a9, .inl (T 1, 9, .inr (.inl h0))), (a10, .inl (T 0, 9, .inl (cI f3))), (a11, .inl (T 0, 9, .inl (cI f4))), (a12, .inl (T 0, 9, .inl (cI f5))), (a13, .inl (T 0, 9, .inl (cI f6))), (a14, .inl (T 0, 9, .inl (cI f7))), (a15, .inl (T 0, 9, .inl (cI f8))), (a16, .inl (T 1, 3, .inr (.inl h1))), (a17, .inl (T 0, 3, .inl (cI f9)))]) M w 3 rfl o0_h (iI_in (by omega) (by omega) (by decide)) rfl dX0_readDeed_34 (fun H locs w => ?_)
        refine lv_aload_n hx hb dX0_readDeed_35 rfl (lv_at hl 2 rfl) ?_
        refine k_V (ce := 0) (sl := 0) (rest := []) (wr := [(a0, .inr (0, [.ref a3, .ref a4, .ref a5, .ref a6, .ref a7, .int (iI x0)])), (a2, .inr (9, [.ref a9, .ref a10, .ref a11, .ref a12, .ref a13, .ref a14, .ref a15, .ref a16, .ref a17, .int (iI x9), .int (iI x10), .int (iI x11), .int (iI x12), .int (iI x13), .int (iI x14), .int (iI x15), .int (iI x16), .int (iI x17)])), (a3, .inl (T 5, 40, .inr (.inr (.inr (.inr (va_up g0 (Int32.toNatClampNeg (iI x0)) (some qq1))))))), (a5, .inl (T 0, 40, .inl (cI f0))), (a6, .inl (T 0, 40, .inl (cI f1))), (a9, .inl (T 1, 9, .inr (.inl h0))), (a10, .inl (T 0, 9, .inl (cI f3))), (a11, .inl (T 0, 9, .inl (cI f4))), (a12, .inl (T 0, 9, .inl (cI f5))), (a13, .inl (T 0, 9, .inl (cI f6))), (a14, .inl (T 0, 9, .inl (cI f7))), (a15, .inl (T 0, 9, .inl (cI f8))), (a16, .inl (T 1, 3, .inr (.inl h1))), (a17, .inl (T 0, 3, .inl (cI f9)))]) (r_V (f := 4) [1, 6] M w V_HookedCity_Book_72 G587 G588 (c266_X8_step l D T _ a1 a8 x1 x2 x3 x4 x5 (some qq1) y0 r0 x6 x7 x8 f2 x1_a x1_b x2_a x2_b x3_a x3_b x4_a x4_b x5_a x5_b o0_h x6_a x6_b x7_a x7_b x8_a x8_b f2_h) 1 clX8 rfl rfl (by decide) rfl hl.1 rfl (Nat.le_of_ble_eq_true rfl) dX0_readDeed_36 (by decide) (by decide) (by decide) (by decide)) w [1, 6] [0, 2, 3, 4, 5, 7, 8, 9, 10, 11, 12, 13, 14, 15] rfl rfl (by decide) (by decide) rfl rfl (fun u H locs hp w => ?_)
        obtain ⟨z50, z51, z52, fo53, fy54, fr55, z56⟩ := u
        have z50_a : 0 ≤ z50 := hp.1
        have z50_b : z50 ≤ 940 := hp.2.1
        have z51_a : 0 ≤ z51 := hp.2.2.1
        have z51_b : z51 ≤ 940 := hp.2.2.2.1
        have z52_a : 0 ≤ z52 := hp.2.2.2.2.1
        have z52_b : z52 ≤ 5 := hp.2.2.2.2.2.1
        have fo53_h : wok T fo53 := hp.2.2.2.2.2.2.1
        have z56_a : (-2147483648) ≤ z56 := hp.2.2.2.2.2.2.2.1
        have z56_b : z56 ≤ 2147483647 := hp.2.2.2.2.2.2.2.2.1
        have pq57 : gC T (tkAt f2 x1 x2 x3) z52 z51 z50 fy54 fr55 z56 fo53 := hp.2.2.2.2.2.2.2.2.2
        have w : WD D A s.heap [(a0, .inr (0, [.ref a3, .ref a4, .ref a5, .ref a6, .ref a7, .int (iI x0)])), (a2, .inr (9, [.ref a9, .ref a10, .ref a11, .ref a12, .ref a13, .ref a14, .ref a15, .ref a16, .ref a17, .int (iI x9), .int (iI x10), .int (iI x11), .int (iI x12), .int (iI x13), .int (iI x14), .int (iI x15), .int (iI x16), .int (iI x17)])), (a3, .inl (T 5, 40, .inr (.inr (.inr (.inr (va_up g0 (Int32.toNatClampNeg (iI x0)) (some qq1))))))), (a5, .inl (T 0, 40, .inl (cI f0))), (a6, .inl (T 0, 40, .inl (cI f1))), (a9, .inl (T 1, 9, .inr (.inl h0))), (a10, .inl (T 0, 9, .inl (cI f3))), (a11, .inl (T 0, 9, .inl (cI f4))), (a12, .inl (T 0, 9, .inl (cI f5))), (a13, .inl (T 0, 9, .inl (cI f6))), (a14, .inl (T 0, 9, .inl (cI f7))), (a15, .inl (T 0, 9, .inl (cI f8))), (a16, .inl (T 1, 3, .inr (.inl h1))), (a17, .inl (T 0, 3, .inl (cI f9))), (a1, .inr (8, [.ref a8, .int (iI x1), .int (iI x2), .int (iI z50), .int (iI z51), .int (iI z52), (va_rf fo53), .long fy54, .int fr55, .int (iI z56), .int (iI x7), .int (iI x8)])), (a8, .inl (T 0, 940, .inl (cI f2)))] H locs := w
        refine lv_aload_n hx hb dX0_readDeed_39 rfl (lv_at hl 1 rfl) ?_
        refine lv_aload_n hx hb dX0_readDeed_40 rfl (lv_at hl 2 rfl) ?_
        refine lv_aload_n hx hb dX0_readDeed_41 rfl (lv_at hl 3 rfl) ?_
        refine k_I (ce := 0) (sl := 0) (rest := []) (wr := [(a3, .inl (T 5, 40, .inr (.inr (.inr (.inr (va_up g0 (Int32.toNatClampNeg (iI x0)) (some qq1))))))), (a6, .inl (T 0, 40, .inl (cI f1)))]) (r_V (f := 5) [0, 14, 1, 3, 15, 5, 6, 7, 8, 9, 10, 11, 12, 13] M w V_HookedCity_Book_82 G1193 G32 (c403_X0_readFirst l D T _ a0 a1 a2 a3 a4 a5 a6 a7 x0 a8 x1 x2 z50 z51 z52 fo53 fy54 fr55 z56 x7 x8 a9 a10 a11 a12 a13 a14 a15 a16 a17 x9 x10 x11 x12 x13 x14 x15 x16 x17 f0 f2 h0 f3 f4 f5 f6 f7 f8 h1 f9 x0_a x0_b x1_a x1_b x2_a x2_b z50_a z50_b z51_a z51_b z52_a z52_b fo53_h z56_a z56_b x7_a x7_b x8_a x8_b x9_a x9_b x10_a x10_b x11_a x11_b x12_a x12_b x13_a x13_b x14_a x14_b x15_a x15_b x16_a x16_b x17_a x17_b f0_h f2_h f3_h f4_h f5_h f6_h f7_h f8_h f9_h) 0 clX0 rfl rfl (by decide) rfl hl.1 rfl (Nat.le_of_ble_eq_true rfl) dX0_readDeed_42 (by decide) (by decide) (by decide) (by decide)) w [0, 14, 1, 3, 15, 5, 6, 7, 8, 9, 10, 11, 12, 13] [2, 4] rfl rfl (by decide) (by decide) rfl rfl (fun v u H locs hp w => ?_)
        obtain ⟨z58, z59, z60, z61, fo62, fy63, fr64, z65, z66, z67, ff68⟩ := u
        have hv : iI z58 = v := hp.1
        subst hv
        have z58_a : 0 ≤ z58 := hp.2.1
        have z58_b : z58 ≤ 1 := hp.2.2.1
        have z59_a : 0 ≤ z59 := hp.2.2.2.1
        have z59_b : z59 ≤ 940 := hp.2.2.2.2.1
        have z60_a : 0 ≤ z60 := hp.2.2.2.2.2.1
        have z60_b : z60 ≤ 940 := hp.2.2.2.2.2.2.1
        have z61_a : 0 ≤ z61 := hp.2.2.2.2.2.2.2.1
        have z61_b : z61 ≤ 5 := hp.2.2.2.2.2.2.2.2.1
        have fo62_h : wok T fo62 := hp.2.2.2.2.2.2.2.2.2.1
        have z65_a : (-2147483648) ≤ z65 := hp.2.2.2.2.2.2.2.2.2.2.1
        have z65_b : z65 ≤ 2147483647 := hp.2.2.2.2.2.2.2.2.2.2.2.1
        have z66_a : (-2147483648) ≤ z66 := hp.2.2.2.2.2.2.2.2.2.2.2.2.1
        have z66_b : z66 ≤ 2147483647 := hp.2.2.2.2.2.2.2.2.2.2.2.2.2.1
        have z67_a : 0 ≤ z67 := hp.2.2.2.2.2.2.2.2.2.2.2.2.2.2.1
        have z67_b : z67 ≤ 940 := hp.2.2.2.2.2.2.2.2.2.2.2.2.2.2.2.1
        have ff68_h : rng (-2147483648) 2147483647 ff68 := hp.2.2.2.2.2.2.2.2.2.2.2.2.2.2.2.2.1
        have pq69 : kp x0 f0 ff68 := hp.2.2.2.2.2.2.2.2.2.2.2.2.2.2.2.2.2.1
        have pq70 : z58 = 1 → 0 ≤ ff68 x0 ∧ ff68 x0 ≤ 8 := hp.2.2.2.2.2.2.2.2.2.2.2.2.2.2.2.2.2.2.1
        have pq71 : kpB z58 x7 z66 := hp.2.2.2.2.2.2.2.2.2.2.2.2.2.2.2.2.2.2.2.1
        have pq72 : ∀ x : Tk × Int × Int, gC T x z52 z51 z50 fy54 fr55 z56 fo53 → RS (bkP f2 x1 x2 (sNa h0 x9) (x, x0)) z58 z66 z67 (fun y => gC T y z61 z60 z59 fy63 fr64 z65 fo62) x0 := hp.2.2.2.2.2.2.2.2.2.2.2.2.2.2.2.2.2.2.2.2
        have w : WD D A s.heap [(a3, .inl (T 5, 40, .inr (.inr (.inr (.inr (va_up g0 (Int32.toNatClampNeg (iI x0)) (some qq1))))))), (a6, .inl (T 0, 40, .inl (cI f1))), (a0, .inr (0, [.ref a3, .ref a4, .ref a5, .ref a6, .ref a7, .int (iI x0)])), (a1, .inr (8, [.ref a8, .int (iI x1), .int (iI x2), .int (iI z59), .int (iI z60), .int (iI z61), (va_rf fo62), .long fy63, .int fr64, .int (iI z65), .int (iI z66), .int (iI z67)])), (a2, .inr (9, [.ref a9, .ref a10, .ref a11, .ref a12, .ref a13, .ref a14, .ref a15, .ref a16, .ref a17, .int (iI x9), .int (iI x10), .int (iI x11), .int (iI x12), .int (iI x13), .int (iI x14), .int (iI x15), .int (iI x16), .int (iI x17)])), (a5, .inl (T 0, 40, .inl (cI ff68))), (a8, .inl (T 0, 940, .inl (cI f2))), (a9, .inl (T 1, 9, .inr (.inl h0))), (a10, .inl (T 0, 9, .inl (cI f3))), (a11, .inl (T 0, 9, .inl (cI f4))), (a12, .inl (T 0, 9, .inl (cI f5))), (a13, .inl (T 0, 9, .inl (cI f6))), (a14, .inl (T 0, 9, .inl (cI f7))), (a15, .inl (T 0, 9, .inl (cI f8))), (a16, .inl (T 1, 3, .inr (.inl h1))), (a17, .inl (T 0, 3, .inl (cI f9)))] H locs := w
        refine lv_if_ne (tgt := 50) hx hb dX0_readDeed_45 (by decide) (fun c_73 => ?_) (fun c_73 => ?_)
        · replace c_73 : ¬ z58 = 0 := fun h => c_73 ((iz_eq (Int.le_trans (by decide) z58_a) (Int.le_trans z58_b (by decide))).mpr h)
          refine lv_aload_n hx hb dX0_readDeed_50 rfl (lv_at hl 0 rfl) ?_
          refine r_gets M w 12 rfl G1189 dX0_readDeed_51 ?_
          refine lv_acmp_ne (rx := (some qq1)) (ry := (some (T (10 + 12)))) (tgt := 59) hx hb dX0_readDeed_54 (by decide) (fun c_74 => ?_) (fun c_74 => ?_)
          · refine lv_aload_n hx hb dX0_readDeed_59 rfl (lv_at hl 1 rfl) ?_
            refine r_get (v := .ref a6) M w 2 3 clX0 rfl (by decide) G266 rfl rfl dX0_readDeed_60 ?_
            refine lv_aload_n hx hb dX0_readDeed_63 rfl (lv_at hl 1 rfl) ?_
            refine r_get (v := .int (iI x0)) M w 2 5 clX0 rfl (by decide) G269 rfl rfl dX0_readDeed_64 ?_
            refine lv_aload_n hx hb dX0_readDeed_67 rfl (lv_at hl 3 rfl) ?_
            refine lv_aload_n hx hb dX0_readDeed_68 rfl (lv_at hl 2 rfl) ?_
            refine k_I (ce := 0) (sl := 0) (rest := [.int (iI x0), .ref a6]) (wr := [(a3, .inl (T 5, 40, .inr (.inr (.inr (.inr (va_up g0 (Int32.toNatClampNeg (iI x0)) (some qq1))))))), (a6, .inl (T 0, 40, .inl (cI f1))), (a0, .inr (0, [.ref a3, .ref a4, .ref a5, .ref a6, .ref a7, .int (iI x0)])), (a5, .inl (T 0, 40, .inl (cI ff68)))]) (r_V (f := 2) [4, 3, 7, 8, 9, 10, 11, 12, 13, 14, 15, 6] M w V_HookedCity_Book_91 G743 G744 (c284_X9_personAt l D T _ a2 a1 a9 a10 a11 a12 a13 a14 a15 a16 a17 x9 x10 x11 x12 x13 x14 x15 x16 x17 a8 x1 x2 z59 z60 z61 fo62 fy63 fr64 z65 z66 z67 h0 f3 f4 f5 f6 f7 f8 h1 f9 f2 x9_a x9_b x10_a x10_b x11_a x11_b x12_a x12_b x13_a x13_b x14_a x14_b x15_a x15_b x16_a x16_b x17_a x17_b x1_a x1_b x2_a x2_b z59_a z59_b z60_a z60_b z61_a z61_b fo62_h z65_a z65_b z66_a z66_b z67_a z67_b f3_h f4_h f5_h f6_h f7_h f8_h f9_h f2_h) 4 clX9 rfl rfl (by decide) rfl hl.1 rfl (Nat.le_of_ble_eq_true rfl) dX0_readDeed_69 (by decide) (by decide) (by decide) (by decide)) w [4, 3, 7, 8, 9, 10, 11, 12, 13, 14, 15, 6] [0, 1, 2, 5] rfl rfl (by decide) (by decide) rfl rfl (fun v u H locs hp w => ?_)
            obtain ⟨z75, z76, z77⟩ := u
            have hv : iI z75 = v := hp.1
            subst hv
            have z75_a : (-1) ≤ z75 := hp.2.1
            have z75_b : z75 ≤ 8 := hp.2.2.1
            have z76_a : (-2147483648) ≤ z76 := hp.2.2.2.1
            have z76_b : z76 ≤ 2147483647 := hp.2.2.2.2.1
            have z77_a : 0 ≤ z77 := hp.2.2.2.2.2.1
            have z77_b : z77 ≤ 940 := hp.2.2.2.2.2.2.1
            have ee78 : 0 ≤ ((x9 - z75) - 1) := hp.2.2.2.2.2.2.2.1
            have pq79 : ∀ (x : Tk × Int × Int) (rd : Int → Int) (h : Nat → Int64) (o : Int → Int), gC T x z61 z60 z59 fy63 fr64 z65 fo62 → XW rd h o h0 f3 f4 f5 f6 f7 f8 h1 f9 x9 x10 x12 x13 x14 x15 x16 x17 → XV (sOne rd h x) z75 z76 z77 := hp.2.2.2.2.2.2.2.2.1
            have pq80 : ∀ x : Tk × Int × Int, gC T x z61 z60 z59 fy63 fr64 z65 fo62 → XV ((sNa h0 x9) x) z75 z76 z77 := hp.2.2.2.2.2.2.2.2.2.1
            have pq81 : kpF z75 z66 z76 := hp.2.2.2.2.2.2.2.2.2.2
            have w : WD D A s.heap [(a3, .inl (T 5, 40, .inr (.inr (.inr (.inr (va_up g0 (Int32.toNatClampNeg (iI x0)) (some qq1))))))), (a6, .inl (T 0, 40, .inl (cI f1))), (a0, .inr (0, [.ref a3, .ref a4, .ref a5, .ref a6, .ref a7, .int (iI x0)])), (a5, .inl (T 0, 40, .inl (cI ff68))), (a2, .inr (9, [.ref a9, .ref a10, .ref a11, .ref a12, .ref a13, .ref a14, .ref a15, .ref a16, .ref a17, .int (iI x9), .int (iI x10), .int (iI x11), .int (iI x12), .int (iI x13), .int (iI x14), .int (iI x15), .int (iI x16), .int (iI x17)])), (a1, .inr (8, [.ref a8, .int (iI x1), .int (iI x2), .int (iI z59), .int (iI z60), .int (iI z61), (va_rf fo62), .long fy63, .int fr64, .int (iI z65), .int (iI z76), .int (iI z77)])), (a9, .inl (T 1, 9, .inr (.inl h0))), (a10, .inl (T 0, 9, .inl (cI f3))), (a11, .inl (T 0, 9, .inl (cI f4))), (a12, .inl (T 0, 9, .inl (cI f5))), (a13, .inl (T 0, 9, .inl (cI f6))), (a14, .inl (T 0, 9, .inl (cI f7))), (a15, .inl (T 0, 9, .inl (cI f8))), (a16, .inl (T 1, 3, .inr (.inl h1))), (a17, .inl (T 0, 3, .inl (cI f9))), (a8, .inl (T 0, 940, .inl (cI f2)))] H locs := w
            refine r_iast (ws' := [(a3, .inl (T 5, 40, .inr (.inr (.inr (.inr (va_up g0 (Int32.toNatClampNeg (iI x0)) (some qq1))))))), (a6, .inl (T 0, 40, .inl (cI (upz f1 x0 z75)))), (a0, .inr (0, [.ref a3, .ref a4, .ref a5, .ref a6, .ref a7, .int (iI x0)])), (a5, .inl (T 0, 40, .inl (cI ff68))), (a2, .inr (9, [.ref a9, .ref a10, .ref a11, .ref a12, .ref a13, .ref a14, .ref a15, .ref a16, .ref a17, .int (iI x9), .int (iI x10), .int (iI x11), .int (iI x12), .int (iI x13), .int (iI x14), .int (iI x15), .int (iI x16), .int (iI x17)])), (a1, .inr (8, [.ref a8, .int (iI x1), .int (iI x2), .int (iI z59), .int (iI z60), .int (iI z61), (va_rf fo62), .long fy63, .int fr64, .int (iI z65), .int (iI z76), .int (iI z77)])), (a9, .inl (T 1, 9, .inr (.inl h0))), (a10, .inl (T 0, 9, .inl (cI f3))), (a11, .inl (T 0, 9, .inl (cI f4))), (a12, .inl (T 0, 9, .inl (cI f5))), (a13, .inl (T 0, 9, .inl (cI f6))), (a14, .inl (T 0, 9, .inl (cI f7))), (a15, .inl (T 0, 9, .inl (cI f8))), (a16, .inl (T 1, 3, .inr (.inl h1))), (a17, .inl (T 0, 3, .inl (cI f9))), (a8, .inl (T 0, 940, .inl (cI f2)))]) M w 1 rfl (iI_in (by omega) (by omega) (by decide)) (by rw [cI_up (by omega) (by omega)]; rfl) dX0_readDeed_72 (fun H locs w => ?_)
            refine lv_aload_n hx hb dX0_readDeed_73 rfl (lv_at hl 1 rfl) ?_
            refine r_get (v := .ref a6) M w 2 3 clX0 rfl (by decide) G266 rfl rfl dX0_readDeed_74 ?_
            refine lv_aload_n hx hb dX0_readDeed_77 rfl (lv_at hl 1 rfl) ?_
            refine r_get (v := .int (iI x0)) M w 2 5 clX0 rfl (by decide) G269 rfl rfl dX0_readDeed_78 ?_
            refine r_iald (v := iI z75) M w 1 rfl (iI_in (by omega) (by omega) (by decide)) ((cI_at (by omega) (by omega)).trans (congrArg iI (by rw [upz_s]))) dX0_readDeed_81 ?_
            refine lv_iconst (v := iI (-1)) hx hb dX0_readDeed_82 (by decide +kernel) ?_
            refine lv_icmp_ne (tgt := 88) hx hb dX0_readDeed_83 (by decide) (fun c_82 => ?_) (fun c_82 => ?_)
            · replace c_82 : ¬ z75 = (-1) := fun h => c_82 ((iI_eq (Int.le_trans (by decide) z75_a) (Int.le_trans z75_b (by decide)) (by decide) (by decide)).mpr h)
              refine lv_aload_n hx hb dX0_readDeed_88 rfl (lv_at hl 2 rfl) ?_
              refine k_V (ce := 0) (sl := 0) (rest := []) (wr := [(a3, .inl (T 5, 40, .inr (.inr (.inr (.inr (va_up g0 (Int32.toNatClampNeg (iI x0)) (some qq1))))))), (a6, .inl (T 0, 40, .inl (cI (upz f1 x0 z75)))), (a0, .inr (0, [.ref a3, .ref a4, .ref a5, .ref a6, .ref a7, .int (iI x0)])), (a5, .inl (T 0, 40, .inl (cI ff68))), (a2, .inr (9, [.ref a9, .ref a10, .ref a11, .ref a12, .ref a13, .ref a14, .ref a15, .ref a16, .ref a17, .int (iI x9), .int (iI x10), .int (iI x11), .int (iI x12), .int (iI x13), .int (iI x14), .int (iI x15), .int (iI x16), .int (iI x17)])), (a9, .inl (T 1, 9, .inr (.inl h0))), (a10, .inl (T 0, 9, .inl (cI f3))), (a11, .inl (T 0, 9, .inl (cI f4))), (a12, .inl (T 0, 9, .inl (cI f5))), (a13, .inl (T 0, 9, .inl (cI f6))), (a14, .inl (T 0, 9, .inl (cI f7))), (a15, .inl (T 0, 9, .inl (cI f8))), (a16, .inl (T 1, 3, .inr (.inl h1))), (a17, .inl (T 0, 3, .inl (cI f9)))]) (r_V (f := 4) [5, 15] M w V_HookedCity_Book_72 G587 G588 (c266_X8_step l D T _ a1 a8 x1 x2 z59 z60 z61 fo62 fy63 fr64 z65 z76 z77 f2 x1_a x1_b x2_a x2_b z59_a z59_b z60_a z60_b z61_a z61_b fo62_h z65_a z65_b z76_a z76_b z77_a z77_b f2_h) 5 clX8 rfl rfl (by decide) rfl hl.1 rfl (Nat.le_of_ble_eq_true rfl) dX0_readDeed_89 (by decide) (by decide) (by decide) (by decide)) w [5, 15] [0, 1, 2, 3, 4, 6, 7, 8, 9, 10, 11, 12, 13, 14] rfl rfl (by decide) (by decide) rfl rfl (fun u H locs hp w => ?_)
              obtain ⟨z83, z84, z85, fo86, fy87, fr88, z89⟩ := u
              have z83_a : 0 ≤ z83 := hp.1
              have z83_b : z83 ≤ 940 := hp.2.1
              have z84_a : 0 ≤ z84 := hp.2.2.1
              have z84_b : z84 ≤ 940 := hp.2.2.2.1
              have z85_a : 0 ≤ z85 := hp.2.2.2.2.1
              have z85_b : z85 ≤ 5 := hp.2.2.2.2.2.1
              have fo86_h : wok T fo86 := hp.2.2.2.2.2.2.1
              have z89_a : (-2147483648) ≤ z89 := hp.2.2.2.2.2.2.2.1
              have z89_b : z89 ≤ 2147483647 := hp.2.2.2.2.2.2.2.2.1
              have pq90 : gC T (tkAt f2 x1 x2 z59) z85 z84 z83 fy87 fr88 z89 fo86 := hp.2.2.2.2.2.2.2.2.2
              have w : WD D A s.heap [(a3, .inl (T 5, 40, .inr (.inr (.inr (.inr (va_up g0 (Int32.toNatClampNeg (iI x0)) (some qq1))))))), (a6, .inl (T 0, 40, .inl (cI (upz f1 x0 z75)))), (a0, .inr (0, [.ref a3, .ref a4, .ref a5, .ref a6, .ref a7, .int (iI x0)])), (a5, .inl (T 0, 40, .inl (cI ff68))), (a2, .inr (9, [.ref a9, .ref a10, .ref a11, .ref a12, .ref a13, .ref a14, .ref a15, .ref a16, .ref a17, .int (iI x9), .int (iI x10), .int (iI x11), .int (iI x12), .int (iI x13), .int (iI x14), .int (iI x15), .int (iI x16), .int (iI x17)])), (a9, .inl (T 1, 9, .inr (.inl h0))), (a10, .inl (T 0, 9, .inl (cI f3))), (a11, .inl (T 0, 9, .inl (cI f4))), (a12, .inl (T 0, 9, .inl (cI f5))), (a13, .inl (T 0, 9, .inl (cI f6))), (a14, .inl (T 0, 9, .inl (cI f7))), (a15, .inl (T 0, 9, .inl (cI f8))), (a16, .inl (T 1, 3, .inr (.inl h1))), (a17, .inl (T 0, 3, .inl (cI f9))), (a1, .inr (8, [.ref a8, .int (iI x1), .int (iI x2), .int (iI z83), .int (iI z84), .int (iI z85), (va_rf fo86), .long fy87, .int fr88, .int (iI z89), .int (iI z76), .int (iI z77)])), (a8, .inl (T 0, 940, .inl (cI f2)))] H locs := w
              refine lv_iconst (v := iI 1) hx hb dX0_readDeed_92 (by decide +kernel) ?_
              exact ret _ (1, z83, z84, z85, fo86, fy87, fr88, z89, z76, z77, (va_up g0 (Int32.toNatClampNeg (iI x0)) (some qq1)), ff68, (upz f1 x0 z75)) _ _ _ _ _ [2, 14, 4, 0, 3, 1, 15, 5, 6, 7, 8, 9, 10, 11, 12, 13] dX0_readDeed_93 (by decide +kernel) ⟨rfl, (show (0 : Int) ≤ 1 from by decide), (show (1 : Int) ≤ 1 from by decide), z83_a, z83_b, z84_a, z84_b, z85_a, z85_b, fo86_h, z89_a, z89_b, z76_a, z76_b, z77_a, z77_b, (woks_up g0_h o0_h), ff68_h, (rng_up f1_h (by omega) (by omega)), (show kpo x0 g0 (va_up g0 (Int32.toNatClampNeg (iI x0)) (some qq1)) from (kpo_up kpo_rfl (by omega) (by omega) (by omega))), (show kp x0 f0 ff68 from pq69), (show kp x0 f1 (upz f1 x0 z75) from (kp_up kp_rfl (by omega))), (show 1 = 1 → ∀ a, 0 ≤ a → bk1 T ((va_up g0 (Int32.toNatClampNeg (iI x0)) (some qq1)) (Int32.toNatClampNeg (iI x0))) a (ff68 x0) ((upz f1 x0 z75) x0) from (fun _ a ha => by rw [va_up_self]; exact bk1_l M.2.2.2.2.2.2.2.2.2 c_49 ha (pq70 (by omega)))), (show kpB 1 x7 z76 from (fun hr => by have y1 := pq71 (by omega); have y2 := pq81 (by omega); omega)), (show ∀ x : Tk × Int × Int, gC T x x5 x4 x3 y0 r0 x6 (some qq1) → RS (bkD f2 x1 x2 (sNa h0 x9) (x, x0)) 1 z76 z77 (fun y => gC T y z85 z84 z83 fy87 fr88 z89 fo86) x0 from (fun x g => absurd c_49 c_74))⟩ w (by decide) rfl
            · replace c_82 := (iI_eq (Int.le_trans (by decide) z75_a) (Int.le_trans z75_b (by decide)) (by decide) (by decide)).mp c_82
              refine lv_iconst (v := iI 0) hx hb dX0_readDeed_86 (by decide +kernel) ?_
              exact ret _ (0, z59, z60, z61, fo62, fy63, fr64, z65, z76, z77, (va_up g0 (Int32.toNatClampNeg (iI x0)) (some qq1)), ff68, (upz f1 x0 z75)) _ _ _ _ _ [2, 5, 4, 0, 3, 1, 15, 6, 7, 8, 9, 10, 11, 12, 13, 14] dX0_readDeed_87 (by decide +kernel) ⟨rfl, (show (0 : Int) ≤ 0 from by decide), (show (0 : Int) ≤ 1 from by decide), z59_a, z59_b, z60_a, z60_b, z61_a, z61_b, fo62_h, z65_a, z65_b, z76_a, z76_b, z77_a, z77_b, (woks_up g0_h o0_h), ff68_h, (rng_up f1_h (by omega) (by omega)), (show kpo x0 g0 (va_up g0 (Int32.toNatClampNeg (iI x0)) (some qq1)) from (kpo_up kpo_rfl (by omega) (by omega) (by omega))), (show kp x0 f0 ff68 from pq69), (show kp x0 f1 (upz f1 x0 z75) from (kp_up kp_rfl (by omega))), (show 0 = 1 → ∀ a, 0 ≤ a → bk1 T ((va_up g0 (Int32.toNatClampNeg (iI x0)) (some qq1)) (Int32.toNatClampNeg (iI x0))) a (ff68 x0) ((upz f1 x0 z75) x0) from (fun h => absurd h (by decide))), (show kpB 0 x7 z76 from (fun e => absurd e (by decide))), (show ∀ x : Tk × Int × Int, gC T x x5 x4 x3 y0 r0 x6 (some qq1) → RS (bkD f2 x1 x2 (sNa h0 x9) (x, x0)) 0 z76 z77 (fun y => gC T y z61 z60 z59 fy63 fr64 z65 fo62) x0 from (fun x g => absurd c_49 c_74))⟩ w (by decide) rfl
          · refine lv_iconst (v := iI 1) hx hb dX0_readDeed_57 (by decide +kernel) ?_
            exact ret _ (1, z59, z60, z61, fo62, fy63, fr64, z65, z66, z67, (va_up g0 (Int32.toNatClampNeg (iI x0)) (some qq1)), ff68, f1) _ _ _ _ _ [2, 3, 4, 0, 5, 1, 6, 7, 8, 9, 10, 11, 12, 13, 14, 15] dX0_readDeed_58 (by decide +kernel) ⟨rfl, (show (0 : Int) ≤ 1 from by decide), (show (1 : Int) ≤ 1 from by decide), z59_a, z59_b, z60_a, z60_b, z61_a, z61_b, fo62_h, z65_a, z65_b, z66_a, z66_b, z67_a, z67_b, (woks_up g0_h o0_h), ff68_h, f1_h, (show kpo x0 g0 (va_up g0 (Int32.toNatClampNeg (iI x0)) (some qq1)) from (kpo_up kpo_rfl (by omega) (by omega) (by omega))), (show kp x0 f0 ff68 from pq69), (show kp x0 f1 f1 from kp_rfl), (show 1 = 1 → ∀ a, 0 ≤ a → bk1 T ((va_up g0 (Int32.toNatClampNeg (iI x0)) (some qq1)) (Int32.toNatClampNeg (iI x0))) a (ff68 x0) (f1 x0) from (fun _ a ha => by rw [va_up_self]; exact bk1_l M.2.2.2.2.2.2.2.2.2 c_74 ha (pq70 (by omega)))), (show kpB 1 x7 z66 from (fun hr => by have y1 := pq71 (by omega); omega)), (show ∀ x : Tk × Int × Int, gC T x x5 x4 x3 y0 r0 x6 (some qq1) → RS (bkD f2 x1 x2 (sNa h0 x9) (x, x0)) 1 z66 z67 (fun y => gC T y z61 z60 z59 fy63 fr64 z65 fo62) x0 from (fun x g => bd_l (cw_0 g (j := 11) (by decide) c_7) (cw_1 M.2.2.2.2.2.2.2.2.2 g (j := 12) (by decide) c_74) (RS_1 (pq72 _ (gC_nx g pq57)) (by omega))))⟩ w (by decide) rfl
        · replace c_73 := (iz_eq (Int.le_trans (by decide) z58_a) (Int.le_trans z58_b (by decide))).mp c_73
          refine lv_iconst (v := iI 0) hx hb dX0_readDeed_48 (by decide +kernel) ?_
          exact ret _ (0, z59, z60, z61, fo62, fy63, fr64, z65, z66, z67, (va_up g0 (Int32.toNatClampNeg (iI x0)) (some qq1)), ff68, f1) _ _ _ _ _ [2, 3, 4, 0, 5, 1, 6, 7, 8, 9, 10, 11, 12, 13, 14, 15] dX0_readDeed_49 (by decide +kernel) ⟨rfl, (show (0 : Int) ≤ 0 from by decide), (show (0 : Int) ≤ 1 from by decide), z59_a, z59_b, z60_a, z60_b, z61_a, z61_b, fo62_h, z65_a, z65_b, z66_a, z66_b, z67_a, z67_b, (woks_up g0_h o0_h), ff68_h, f1_h, (show kpo x0 g0 (va_up g0 (Int32.toNatClampNeg (iI x0)) (some qq1)) from (kpo_up kpo_rfl (by omega) (by omega) (by omega))), (show kp x0 f0 ff68 from pq69), (show kp x0 f1 f1 from kp_rfl), (show 0 = 1 → ∀ a, 0 ≤ a → bk1 T ((va_up g0 (Int32.toNatClampNeg (iI x0)) (some qq1)) (Int32.toNatClampNeg (iI x0))) a (ff68 x0) (f1 x0) from (fun h => absurd h (by decide))), (show kpB 0 x7 z66 from (fun e => absurd e (by decide))), (show ∀ x : Tk × Int × Int, gC T x x5 x4 x3 y0 r0 x6 (some qq1) → RS (bkD f2 x1 x2 (sNa h0 x9) (x, x0)) 0 z66 z67 (fun y => gC T y z61 z60 z59 fy63 fr64 z65 fo62) x0 from (fun x g => bd_l (cw_0 g (j := 11) (by decide) c_7) (cw_1 M.2.2.2.2.2.2.2.2.2 g (j := 12) (by decide) c_49) (RS_0 (pq72 _ (gC_nx g pq57)) (by omega))))⟩ w (by decide) rfl
      · refine lv_aload_n hx hb dX0_readDeed_19 rfl (lv_at hl 2 rfl) ?_
        refine lv_iconst (v := iI 1) hx hb dX0_readDeed_20 (by decide +kernel) ?_
        refine k_I (ce := 0) (sl := 0) (rest := []) (wr := [(a0, .inr (0, [.ref a3, .ref a4, .ref a5, .ref a6, .ref a7, .int (iI x0)])), (a2, .inr (9, [.ref a9, .ref a10, .ref a11, .ref a12, .ref a13, .ref a14, .ref a15, .ref a16, .ref a17, .int (iI x9), .int (iI x10), .int (iI x11), .int (iI x12), .int (iI x13), .int (iI x14), .int (iI x15), .int (iI x16), .int (iI x17)])), (a3, .inl (T 5, 40, .inr (.inr (.inr (.inr g0))))), (a5, .inl (T 0, 40, .inl (cI f0))), (a6, .inl (T 0, 40, .inl (cI f1))), (a8, .inl (T 0, 940, .inl (cI f2))), (a9, .inl (T 1, 9, .inr (.inl h0))), (a10, .inl (T 0, 9, .inl (cI f3))), (a11, .inl (T 0, 9, .inl (cI f4))), (a12, .inl (T 0, 9, .inl (cI f5))), (a13, .inl (T 0, 9, .inl (cI f6))), (a14, .inl (T 0, 9, .inl (cI f7))), (a15, .inl (T 0, 9, .inl (cI f8))), (a16, .inl (T 1, 3, .inr (.inl h1))), (a17, .inl (T 0, 3, .inl (cI f9)))]) (r_V (f := 0) [1] M w V_HookedCity_Book_68 G710 G711 (c271_X8_fail l D T _ a1 1 a8 x1 x2 x3 x4 x5 (some qq1) y0 r0 x6 x7 x8 (by decide) (by decide) x1_a x1_b x2_a x2_b x3_a x3_b x4_a x4_b x5_a x5_b o0_h x6_a x6_b x7_a x7_b x8_a x8_b) 1 clX8 rfl rfl (by decide) rfl hl.1 rfl (Nat.le_of_ble_eq_true rfl) dX0_readDeed_21 (by decide) (by decide) (by decide) (by decide)) w [1] [0, 2, 3, 4, 5, 6, 7, 8, 9, 10, 11, 12, 13, 14, 15] rfl rfl (by decide) (by decide) rfl rfl (fun v u H locs hp w => ?_)
        obtain ⟨z91, z92, z93⟩ := u
        have hv : iI z91 = v := hp.1
        subst hv
        have z91_a : 0 ≤ z91 := hp.2.1
        have z91_b : z91 ≤ 1 := hp.2.2.1
        have z92_a : (-2147483648) ≤ z92 := hp.2.2.2.1
        have z92_b : z92 ≤ 2147483647 := hp.2.2.2.2.1
        have z93_a : 0 ≤ z93 := hp.2.2.2.2.2.1
        have z93_b : z93 ≤ 940 := hp.2.2.2.2.2.2.1
        have pq94 : z92 = 1 := hp.2.2.2.2.2.2.2.1
        have pq95 : z93 = x4 := hp.2.2.2.2.2.2.2.2.1
        have w : WD D A s.heap [(a0, .inr (0, [.ref a3, .ref a4, .ref a5, .ref a6, .ref a7, .int (iI x0)])), (a2, .inr (9, [.ref a9, .ref a10, .ref a11, .ref a12, .ref a13, .ref a14, .ref a15, .ref a16, .ref a17, .int (iI x9), .int (iI x10), .int (iI x11), .int (iI x12), .int (iI x13), .int (iI x14), .int (iI x15), .int (iI x16), .int (iI x17)])), (a3, .inl (T 5, 40, .inr (.inr (.inr (.inr g0))))), (a5, .inl (T 0, 40, .inl (cI f0))), (a6, .inl (T 0, 40, .inl (cI f1))), (a8, .inl (T 0, 940, .inl (cI f2))), (a9, .inl (T 1, 9, .inr (.inl h0))), (a10, .inl (T 0, 9, .inl (cI f3))), (a11, .inl (T 0, 9, .inl (cI f4))), (a12, .inl (T 0, 9, .inl (cI f5))), (a13, .inl (T 0, 9, .inl (cI f6))), (a14, .inl (T 0, 9, .inl (cI f7))), (a15, .inl (T 0, 9, .inl (cI f8))), (a16, .inl (T 1, 3, .inr (.inl h1))), (a17, .inl (T 0, 3, .inl (cI f9))), (a1, .inr (8, [.ref a8, .int (iI x1), .int (iI x2), .int (iI x3), .int (iI x4), .int (iI x5), (va_rf (some qq1)), .long y0, .int r0, .int (iI x6), .int (iI z92), .int (iI z93)]))] H locs := w
        rcases hp.2.2.2.2.2.2.2.2.2 with hr
        · subst hr
          exact ret _ (0, x3, x4, x5, (some qq1), y0, r0, x6, z92, z93, g0, f0, f1) _ _ _ _ _ [0, 15, 1, 2, 3, 4, 5, 6, 7, 8, 9, 10, 11, 12, 13, 14] dX0_readDeed_24 (by decide +kernel) ⟨rfl, (show (0 : Int) ≤ 0 from by decide), (show (0 : Int) ≤ 1 from by decide), x3_a, x3_b, x4_a, x4_b, x5_a, x5_b, o0_h, x6_a, x6_b, z92_a, z92_b, z93_a, z93_b, g0_h, f0_h, f1_h, (show kpo x0 g0 g0 from kpo_rfl), (show kp x0 f0 f0 from kp_rfl), (show kp x0 f1 f1 from kp_rfl), (show 0 = 1 → ∀ a, 0 ≤ a → bk1 T (g0 (Int32.toNatClampNeg (iI x0))) a (f0 x0) (f1 x0) from (fun h => absurd h (by decide))), (show kpB 0 x7 z92 from (fun e => absurd e (by decide))), (show ∀ x : Tk × Int × Int, gC T x x5 x4 x3 y0 r0 x6 (some qq1) → RS (bkD f2 x1 x2 (sNa h0 x9) (x, x0)) 0 z92 z93 (fun y => gC T y x5 x4 x3 y0 r0 x6 (some qq1)) x0 from (fun x g => bd_n (cw_0 g (j := 11) (by decide) c_7) (cw_0 g (j := 12) (by decide) c_49) (by omega) (pq95.trans g.1)))⟩ w (by decide) rfl
set_option maxRecDepth 100000 in
set_option maxHeartbeats 4000000 in
theorem c405_X0_readDays (l : Launch) (D : va_G) (T : Nat → ClassId) (sz : Nat) (a0 : Nat) (a1 : Nat) (a2 : Nat) (a3 : Nat) (a4 : Nat) (a5 : Nat) (a6 : Nat) (x0 : Int) (a7 : Nat) (x1 : Int) (x2 : Int) (x3 : Int) (x4 : Int) (x5 : Int) (o0 : Option Nat) (y0 : Int64) (r0 : Int32) (x6 : Int) (x7 : Int) (x8 : Int) (f0 : Int → Int) (f1 : Int → Int) (x0_a : 0 ≤ x0) (x0_b : x0 ≤ 39) (x1_a : 0 ≤ x1) (x1_b : x1 ≤ 940) (x2_a : 0 ≤ x2) (x2_b : x2 ≤ 940) (x3_a : 0 ≤ x3) (x3_b : x3 ≤ 940) (x4_a : 0 ≤ x4) (x4_b : x4 ≤ 940) (x5_a : 0 ≤ x5) (x5_b : x5 ≤ 5) (o0_h : wok T o0) (x6_a : (-2147483648) ≤ x6) (x6_b : x6 ≤ 2147483647) (x7_a : (-2147483648) ≤ x7) (x7_b : x7 ≤ 2147483647) (x8_a : 0 ≤ x8) (x8_b : x8 ≤ 940) (f0_h : rng (-2147483648) 2147483647 f0) (f1_h : rng 0 255 f1) : Met l yX0_readDays (Cond.code yX0_readDays cX0_readDays 2 (some .boolean) :: GW) (Rm 5 0 0) (cPre [.ref a0, .ref a1] D T [(a0, .inr (0, [.ref a2, .ref a3, .ref a4, .ref a5, .ref a6, .int (iI x0)])), (a1, .inr (8, [.ref a7, .int (iI x1), .int (iI x2), .int (iI x3), .int (iI x4), .int (iI x5), (va_rf o0), .long y0, .int r0, .int (iI x6), .int (iI x7), .int (iI x8)])), (a4, .inl (T 0, 40, .inl (cI f0))), (a7, .inl (T 0, 940, .inl (cI f1)))] sz) (qI D [(a0, .inr (0, [.ref a2, .ref a3, .ref a4, .ref a5, .ref a6, .int (iI x0)])), (a1, .inr (8, [.ref a7, .int (iI x1), .int (iI x2), .int (iI x3), .int (iI x4), .int (iI x5), (va_rf o0), .long y0, .int r0, .int (iI x6), .int (iI x7), .int (iI x8)])), (a4, .inl (T 0, 40, .inl (cI f0))), (a7, .inl (T 0, 940, .inl (cI f1)))] sz (fun (v : Int32) (u : Int × Int × Int × Int × Option Nat × Int64 × Int32 × Int × Int × Int × (Int → Int)) => iI u.1 = v ∧ 0 ≤ u.1 ∧ u.1 ≤ 1 ∧ 0 ≤ u.2.1 ∧ u.2.1 ≤ 940 ∧ 0 ≤ u.2.2.1 ∧ u.2.2.1 ≤ 940 ∧ 0 ≤ u.2.2.2.1 ∧ u.2.2.2.1 ≤ 5 ∧ wok T u.2.2.2.2.1 ∧ (-2147483648) ≤ u.2.2.2.2.2.2.2.1 ∧ u.2.2.2.2.2.2.2.1 ≤ 2147483647 ∧ (-2147483648) ≤ u.2.2.2.2.2.2.2.2.1 ∧ u.2.2.2.2.2.2.2.2.1 ≤ 2147483647 ∧ 0 ≤ u.2.2.2.2.2.2.2.2.2.1 ∧ u.2.2.2.2.2.2.2.2.2.1 ≤ 940 ∧ rng (-2147483648) 2147483647 u.2.2.2.2.2.2.2.2.2.2 ∧ (kp x0 f0 u.2.2.2.2.2.2.2.2.2.2) ∧ (kpB u.1 x7 u.2.2.2.2.2.2.2.2.1) ∧ (∀ x : Tk × Int × Int, gC T x x5 x4 x3 y0 r0 x6 o0 → RS (bkY f1 x1 x2 (x, x0)) u.1 u.2.2.2.2.2.2.2.2.1 u.2.2.2.2.2.2.2.2.2.1 (fun y => gC T y u.2.2.2.1 u.2.2.1 u.2.1 u.2.2.2.2.2.1 u.2.2.2.2.2.2.1 u.2.2.2.2.2.2.2.1 u.2.2.2.2.1) x0)) (fun u => [(a0, .inr (0, [.ref a2, .ref a3, .ref a4, .ref a5, .ref a6, .int (iI x0)])), (a1, .inr (8, [.ref a7, .int (iI x1), .int (iI x2), .int (iI u.2.1), .int (iI u.2.2.1), .int (iI u.2.2.2.1), (va_rf u.2.2.2.2.1), .long u.2.2.2.2.2.1, .int u.2.2.2.2.2.2.1, .int (iI u.2.2.2.2.2.2.2.1), .int (iI u.2.2.2.2.2.2.2.2.1), .int (iI u.2.2.2.2.2.2.2.2.2.1)])), (a4, .inl (T 0, 40, .inl (cI u.2.2.2.2.2.2.2.2.2.2))), (a7, .inl (T 0, 940, .inl (cI f1)))])) 0 0 (va_A [(a0, .inr (0, [.ref a2, .ref a3, .ref a4, .ref a5, .ref a6, .int (iI x0)])), (a1, .inr (8, [.ref a7, .int (iI x1), .int (iI x2), .int (iI x3), .int (iI x4), .int (iI x5), (va_rf o0), .long y0, .int r0, .int (iI x6), .int (iI x7), .int (iI x8)])), (a4, .inl (T 0, 40, .inl (cI f0))), (a7, .inl (T 0, 940, .inl (cI f1)))] sz) := by
  refine e_Z (by decide) (Nat.le_of_ble_eq_true rfl) ?_
  intro p e s m args below meth c A Q ls M hin w ret hl
  have hx := M.1.1
  have hb := M.1.2.1
  have hl : lv_has ls 2 [(0, .ref a0), (1, .ref a1)] := hl
  refine lv_aload_n hx hb dX0_readDays_0 rfl (lv_at hl 0 rfl) ?_
  refine r_get (v := .ref a4) M w 0 2 clX0 rfl (by decide) G265 rfl rfl dX0_readDays_1 ?_
  refine lv_aload_n hx hb dX0_readDays_4 rfl (lv_at hl 0 rfl) ?_
  refine r_get (v := .int (iI x0)) M w 0 5 clX0 rfl (by decide) G269 rfl rfl dX0_readDays_5 ?_
  refine lv_aload_n hx hb dX0_readDays_8 rfl (lv_at hl 1 rfl) ?_
  refine lv_iconst (v := iI 1) hx hb dX0_readDays_9 (by decide +kernel) ?_
  refine lv_bipush (v := iI 60) hx hb dX0_readDays_10 (by decide +kernel) ?_
  refine k_I (ce := 0) (sl := 0) (rest := [.int (iI x0), .ref a4]) (wr := [(a0, .inr (0, [.ref a2, .ref a3, .ref a4, .ref a5, .ref a6, .int (iI x0)])), (a4, .inl (T 0, 40, .inl (cI f0))), (a7, .inl (T 0, 940, .inl (cI f1)))]) (r_V (f := 1) [1] M w V_HookedCity_Book_94 G726 G727 (c273_X8_numberAt l D T _ a1 1 60 a7 x1 x2 x3 x4 x5 o0 y0 r0 x6 x7 x8 (by decide) (by decide) (by decide) (by decide) x1_a x1_b x2_a x2_b x3_a x3_b x4_a x4_b x5_a x5_b o0_h x6_a x6_b x7_a x7_b x8_a x8_b) 1 clX8 rfl rfl (by decide) rfl hl.1 rfl (Nat.le_of_ble_eq_true rfl) dX0_readDays_12 (by decide) (by decide) (by decide) (by decide)) w [1] [0, 2, 3] rfl rfl (by decide) (by decide) rfl rfl (fun v u H locs hp w => ?_)
  obtain ⟨z1, z2, z3⟩ := u
  have hv : iI z1 = v := hp.1
  subst hv
  have z1_a : (-2147483648) ≤ z1 := hp.2.1
  have z1_b : z1 ≤ 2147483647 := hp.2.2.1
  have z2_a : (-2147483648) ≤ z2 := hp.2.2.2.1
  have z2_b : z2 ≤ 2147483647 := hp.2.2.2.2.1
  have z3_a : 0 ≤ z3 := hp.2.2.2.2.2.1
  have z3_b : z3 ≤ 940 := hp.2.2.2.2.2.2.1
  have pq4 : ∀ x : Tk × Int × Int, gC T x x5 x4 x3 y0 r0 x6 o0 → XV (sNu 1 60 x) z1 z2 z3 := hp.2.2.2.2.2.2.2.1
  have pq5 : kpF z1 x7 z2 := hp.2.2.2.2.2.2.2.2
  have w : WD D A s.heap [(a0, .inr (0, [.ref a2, .ref a3, .ref a4, .ref a5, .ref a6, .int (iI x0)])), (a4, .inl (T 0, 40, .inl (cI f0))), (a7, .inl (T 0, 940, .inl (cI f1))), (a1, .inr (8, [.ref a7, .int (iI x1), .int (iI x2), .int (iI x3), .int (iI x4), .int (iI x5), (va_rf o0), .long y0, .int r0, .int (iI x6), .int (iI z2), .int (iI z3)]))] H locs := w
  refine r_iast (ws' := [(a0, .inr (0, [.ref a2, .ref a3, .ref a4, .ref a5, .ref a6, .int (iI x0)])), (a4, .inl (T 0, 40, .inl (cI (upz f0 x0 z1)))), (a7, .inl (T 0, 940, .inl (cI f1))), (a1, .inr (8, [.ref a7, .int (iI x1), .int (iI x2), .int (iI x3), .int (iI x4), .int (iI x5), (va_rf o0), .long y0, .int r0, .int (iI x6), .int (iI z2), .int (iI z3)]))]) M w 1 rfl (iI_in (by omega) (by omega) (by decide)) (by rw [cI_up (by omega) (by omega)]; rfl) dX0_readDays_15 (fun H locs w => ?_)
  refine lv_aload_n hx hb dX0_readDays_16 rfl (lv_at hl 0 rfl) ?_
  refine r_get (v := .ref a4) M w 0 2 clX0 rfl (by decide) G265 rfl rfl dX0_readDays_17 ?_
  refine lv_aload_n hx hb dX0_readDays_20 rfl (lv_at hl 0 rfl) ?_
  refine r_get (v := .int (iI x0)) M w 0 5 clX0 rfl (by decide) G269 rfl rfl dX0_readDays_21 ?_
  refine r_iald (v := iI z1) M w 1 rfl (iI_in (by omega) (by omega) (by decide)) ((cI_at (by omega) (by omega)).trans (congrArg iI (by rw [upz_s]))) dX0_readDays_24 ?_
  refine lv_iconst (v := iI (-1)) hx hb dX0_readDays_25 (by decide +kernel) ?_
  refine lv_icmp_ne (tgt := 31) hx hb dX0_readDays_26 (by decide) (fun c_6 => ?_) (fun c_6 => ?_)
  · replace c_6 : ¬ z1 = (-1) := fun h => c_6 ((iI_eq (Int.le_trans (by decide) z1_a) (Int.le_trans z1_b (by decide)) (by decide) (by decide)).mpr h)
    refine lv_aload_n hx hb dX0_readDays_31 rfl (lv_at hl 1 rfl) ?_
    refine k_V (ce := 0) (sl := 0) (rest := []) (wr := [(a0, .inr (0, [.ref a2, .ref a3, .ref a4, .ref a5, .ref a6, .int (iI x0)])), (a4, .inl (T 0, 40, .inl (cI (upz f0 x0 z1))))]) (r_V (f := 4) [3, 2] M w V_HookedCity_Book_72 G587 G588 (c266_X8_step l D T _ a1 a7 x1 x2 x3 x4 x5 o0 y0 r0 x6 z2 z3 f1 x1_a x1_b x2_a x2_b x3_a x3_b x4_a x4_b x5_a x5_b o0_h x6_a x6_b z2_a z2_b z3_a z3_b f1_h) 3 clX8 rfl rfl (by decide) rfl hl.1 rfl (Nat.le_of_ble_eq_true rfl) dX0_readDays_32 (by decide) (by decide) (by decide) (by decide)) w [3, 2] [0, 1] rfl rfl (by decide) (by decide) rfl rfl (fun u H locs hp w => ?_)
    obtain ⟨z7, z8, z9, fo10, fy11, fr12, z13⟩ := u
    have z7_a : 0 ≤ z7 := hp.1
    have z7_b : z7 ≤ 940 := hp.2.1
    have z8_a : 0 ≤ z8 := hp.2.2.1
    have z8_b : z8 ≤ 940 := hp.2.2.2.1
    have z9_a : 0 ≤ z9 := hp.2.2.2.2.1
    have z9_b : z9 ≤ 5 := hp.2.2.2.2.2.1
    have fo10_h : wok T fo10 := hp.2.2.2.2.2.2.1
    have z13_a : (-2147483648) ≤ z13 := hp.2.2.2.2.2.2.2.1
    have z13_b : z13 ≤ 2147483647 := hp.2.2.2.2.2.2.2.2.1
    have pq14 : gC T (tkAt f1 x1 x2 x3) z9 z8 z7 fy11 fr12 z13 fo10 := hp.2.2.2.2.2.2.2.2.2
    have w : WD D A s.heap [(a0, .inr (0, [.ref a2, .ref a3, .ref a4, .ref a5, .ref a6, .int (iI x0)])), (a4, .inl (T 0, 40, .inl (cI (upz f0 x0 z1)))), (a1, .inr (8, [.ref a7, .int (iI x1), .int (iI x2), .int (iI z7), .int (iI z8), .int (iI z9), (va_rf fo10), .long fy11, .int fr12, .int (iI z13), .int (iI z2), .int (iI z3)])), (a7, .inl (T 0, 940, .inl (cI f1)))] H locs := w
    refine lv_iconst (v := iI 1) hx hb dX0_readDays_35 (by decide +kernel) ?_
    exact ret _ (1, z7, z8, z9, fo10, fy11, fr12, z13, z2, z3, (upz f0 x0 z1)) _ _ _ _ _ [0, 2, 1, 3] dX0_readDays_36 (by decide +kernel) ⟨rfl, (show (0 : Int) ≤ 1 from by decide), (show (1 : Int) ≤ 1 from by decide), z7_a, z7_b, z8_a, z8_b, z9_a, z9_b, fo10_h, z13_a, z13_b, z2_a, z2_b, z3_a, z3_b, (rng_up f0_h (by omega) (by omega)), (show kp x0 f0 (upz f0 x0 z1) from (kp_up kp_rfl (by omega))), (show kpB 1 x7 z2 from (fun hr => by have y0 := pq5 (by omega); omega)), (show ∀ x : Tk × Int × Int, gC T x x5 x4 x3 y0 r0 x6 o0 → RS (bkY f1 x1 x2 (x, x0)) 1 z2 z3 (fun y => gC T y z9 z8 z7 fy11 fr12 z13 fo10) x0 from (fun x g => bnX_1 (pq4 x g) (by omega) (fun _ => ⟨rfl, gC_nx g pq14, rfl⟩)))⟩ w (by decide) rfl
  · replace c_6 := (iI_eq (Int.le_trans (by decide) z1_a) (Int.le_trans z1_b (by decide)) (by decide) (by decide)).mp c_6
    refine lv_iconst (v := iI 0) hx hb dX0_readDays_29 (by decide +kernel) ?_
    exact ret _ (0, x3, x4, x5, o0, y0, r0, x6, z2, z3, (upz f0 x0 z1)) _ _ _ _ _ [0, 3, 1, 2] dX0_readDays_30 (by decide +kernel) ⟨rfl, (show (0 : Int) ≤ 0 from by decide), (show (0 : Int) ≤ 1 from by decide), x3_a, x3_b, x4_a, x4_b, x5_a, x5_b, o0_h, x6_a, x6_b, z2_a, z2_b, z3_a, z3_b, (rng_up f0_h (by omega) (by omega)), (show kp x0 f0 (upz f0 x0 z1) from (kp_up kp_rfl (by omega))), (show kpB 0 x7 z2 from (fun e => absurd e (by decide))), (show ∀ x : Tk × Int × Int, gC T x x5 x4 x3 y0 r0 x6 o0 → RS (bkY f1 x1 x2 (x, x0)) 0 z2 z3 (fun y => gC T y x5 x4 x3 y0 r0 x6 o0) x0 from (fun x g => bnX_0 (pq4 x g) (by omega)))⟩ w (by decide) rfl
set_option maxRecDepth 100000 in
set_option maxHeartbeats 4000000 in
theorem c406_X0_readLine (l : Launch) (D : va_G) (T : Nat → ClassId) (sz : Nat) (a0 : Nat) (a1 : Nat) (a2 : Nat) (a3 : Nat) (a4 : Nat) (a5 : Nat) (a6 : Nat) (a7 : Nat) (x0 : Int) (a8 : Nat) (x1 : Int) (x2 : Int) (x3 : Int) (x4 : Int) (x5 : Int) (o0 : Option Nat) (y0 : Int64) (r0 : Int32) (x6 : Int) (x7 : Int) (x8 : Int) (a9 : Nat) (a10 : Nat) (a11 : Nat) (a12 : Nat) (a13 : Nat) (a14 : Nat) (a15 : Nat) (a16 : Nat) (a17 : Nat) (x9 : Int) (x10 : Int) (x11 : Int) (x12 : Int) (x13 : Int) (x14 : Int) (x15 : Int) (x16 : Int) (x17 : Int) (g0 : Nat → Option Nat) (f0 : Int → Int) (f1 : Int → Int) (f2 : Int → Int) (f3 : Int → Int) (h0 : Nat → Int64) (f4 : Int → Int) (f5 : Int → Int) (f6 : Int → Int) (f7 : Int → Int) (f8 : Int → Int) (f9 : Int → Int) (h1 : Nat → Int64) (f10 : Int → Int) (x0_a : 0 ≤ x0) (x0_b : x0 ≤ 40) (x1_a : 0 ≤ x1) (x1_b : x1 ≤ 940) (x2_a : 0 ≤ x2) (x2_b : x2 ≤ 940) (x3_a : 0 ≤ x3) (x3_b : x3 ≤ 940) (x4_a : 0 ≤ x4) (x4_b : x4 ≤ 940) (x5_a : 0 ≤ x5) (x5_b : x5 ≤ 5) (o0_h : wok T o0) (x6_a : (-2147483648) ≤ x6) (x6_b : x6 ≤ 2147483647) (x7_a : (-2147483648) ≤ x7) (x7_b : x7 ≤ 2147483647) (x8_a : 0 ≤ x8) (x8_b : x8 ≤ 940) (x9_a : 0 ≤ x9) (x9_b : x9 ≤ 9) (x10_a : 0 ≤ x10) (x10_b : x10 ≤ 3) (x11_a : 0 ≤ x11) (x11_b : x11 ≤ 900) (x12_a : (-2147483648) ≤ x12) (x12_b : x12 ≤ 2147483647) (x13_a : (-2147483648) ≤ x13) (x13_b : x13 ≤ 2147483647) (x14_a : (-2147483648) ≤ x14) (x14_b : x14 ≤ 2147483647) (x15_a : 0 ≤ x15) (x15_b : x15 ≤ 1) (x16_a : 0 ≤ x16) (x16_b : x16 ≤ 1) (x17_a : 0 ≤ x17) (x17_b : x17 ≤ 1) (g0_h : woks T g0) (f0_h : rng (-1) 2 f0) (f1_h : rng (-2147483648) 2147483647 f1) (f2_h : rng (-1) 8 f2) (f3_h : rng 0 255 f3) (f4_h : rng (-2147483648) 2147483647 f4) (f5_h : rng (-2147483648) 2147483647 f5) (f6_h : rng (-2147483648) 2147483647 f6) (f7_h : rng 0 511 f7) (f8_h : rng (-1) 8 f8) (f9_h : rng (-1) 8 f9) (f10_h : rng (-2147483648) 2147483647 f10) (pp_b : bkI T g0 f0 f1 f2 x0) : Met l yX0_readLine (Cond.code yX0_readLine cX0_readLine 6 (some .boolean) :: GW) (Rm 7 0 0) (cPre [.ref a0, .ref a1, .ref a2] D T [(a0, .inr (0, [.ref a3, .ref a4, .ref a5, .ref a6, .ref a7, .int (iI x0)])), (a1, .inr (8, [.ref a8, .int (iI x1), .int (iI x2), .int (iI x3), .int (iI x4), .int (iI x5), (va_rf o0), .long y0, .int r0, .int (iI x6), .int (iI x7), .int (iI x8)])), (a2, .inr (9, [.ref a9, .ref a10, .ref a11, .ref a12, .ref a13, .ref a14, .ref a15, .ref a16, .ref a17, .int (iI x9), .int (iI x10), .int (iI x11), .int (iI x12), .int (iI x13), .int (iI x14), .int (iI x15), .int (iI x16), .int (iI x17)])), (a3, .inl (T 5, 40, .inr (.inr (.inr (.inr g0))))), (a4, .inl (T 0, 40, .inl (cI f0))), (a5, .inl (T 0, 40, .inl (cI f1))), (a6, .inl (T 0, 40, .inl (cI f2))), (a8, .inl (T 0, 940, .inl (cI f3))), (a9, .inl (T 1, 9, .inr (.inl h0))), (a10, .inl (T 0, 9, .inl (cI f4))), (a11, .inl (T 0, 9, .inl (cI f5))), (a12, .inl (T 0, 9, .inl (cI f6))), (a13, .inl (T 0, 9, .inl (cI f7))), (a14, .inl (T 0, 9, .inl (cI f8))), (a15, .inl (T 0, 9, .inl (cI f9))), (a16, .inl (T 1, 3, .inr (.inl h1))), (a17, .inl (T 0, 3, .inl (cI f10)))] sz) (qI D [(a0, .inr (0, [.ref a3, .ref a4, .ref a5, .ref a6, .ref a7, .int (iI x0)])), (a1, .inr (8, [.ref a8, .int (iI x1), .int (iI x2), .int (iI x3), .int (iI x4), .int (iI x5), (va_rf o0), .long y0, .int r0, .int (iI x6), .int (iI x7), .int (iI x8)])), (a2, .inr (9, [.ref a9, .ref a10, .ref a11, .ref a12, .ref a13, .ref a14, .ref a15, .ref a16, .ref a17, .int (iI x9), .int (iI x10), .int (iI x11), .int (iI x12), .int (iI x13), .int (iI x14), .int (iI x15), .int (iI x16), .int (iI x17)])), (a3, .inl (T 5, 40, .inr (.inr (.inr (.inr g0))))), (a4, .inl (T 0, 40, .inl (cI f0))), (a5, .inl (T 0, 40, .inl (cI f1))), (a6, .inl (T 0, 40, .inl (cI f2))), (a8, .inl (T 0, 940, .inl (cI f3))), (a9, .inl (T 1, 9, .inr (.inl h0))), (a10, .inl (T 0, 9, .inl (cI f4))), (a11, .inl (T 0, 9, .inl (cI f5))), (a12, .inl (T 0, 9, .inl (cI f6))), (a13, .inl (T 0, 9, .inl (cI f7))), (a14, .inl (T 0, 9, .inl (cI f8))), (a15, .inl (T 0, 9, .inl (cI f9))), (a16, .inl (T 1, 3, .inr (.inl h1))), (a17, .inl (T 0, 3, .inl (cI f10)))] sz (fun (v : Int32) (u : Int × Int × Int × Int × Option Nat × Int64 × Int32 × Int × Int × Int × (Nat → Option Nat) × (Int → Int) × (Int → Int) × (Int → Int)) => iI u.1 = v ∧ 0 ≤ u.1 ∧ u.1 ≤ 1 ∧ 0 ≤ u.2.1 ∧ u.2.1 ≤ 940 ∧ 0 ≤ u.2.2.1 ∧ u.2.2.1 ≤ 940 ∧ 0 ≤ u.2.2.2.1 ∧ u.2.2.2.1 ≤ 5 ∧ wok T u.2.2.2.2.1 ∧ (-2147483648) ≤ u.2.2.2.2.2.2.2.1 ∧ u.2.2.2.2.2.2.2.1 ≤ 2147483647 ∧ (-2147483648) ≤ u.2.2.2.2.2.2.2.2.1 ∧ u.2.2.2.2.2.2.2.2.1 ≤ 2147483647 ∧ 0 ≤ u.2.2.2.2.2.2.2.2.2.1 ∧ u.2.2.2.2.2.2.2.2.2.1 ≤ 940 ∧ woks T u.2.2.2.2.2.2.2.2.2.2.1 ∧ rng (-1) 2 u.2.2.2.2.2.2.2.2.2.2.2.1 ∧ rng (-2147483648) 2147483647 u.2.2.2.2.2.2.2.2.2.2.2.2.1 ∧ rng (-1) 8 u.2.2.2.2.2.2.2.2.2.2.2.2.2 ∧ 0 ≤ ((79 - x0) - (u.1 * 40)) ∧ (u.1 = 1 → bkI T u.2.2.2.2.2.2.2.2.2.2.1 u.2.2.2.2.2.2.2.2.2.2.2.1 u.2.2.2.2.2.2.2.2.2.2.2.2.1 u.2.2.2.2.2.2.2.2.2.2.2.2.2 (x0 + 1)) ∧ (kpB u.1 x7 u.2.2.2.2.2.2.2.2.1) ∧ (∀ x : Tk × Int × Int, gC T x x5 x4 x3 y0 r0 x6 o0 → RS (bkL f3 x1 x2 (sNa h0 x9) (sNa h1 x10) (x, x0)) u.1 u.2.2.2.2.2.2.2.2.1 u.2.2.2.2.2.2.2.2.2.1 (fun y => gC T y u.2.2.2.1 u.2.2.1 u.2.1 u.2.2.2.2.2.1 u.2.2.2.2.2.2.1 u.2.2.2.2.2.2.2.1 u.2.2.2.2.1) x0)) (fun u => [(a0, .inr (0, [.ref a3, .ref a4, .ref a5, .ref a6, .ref a7, .int (iI x0)])), (a1, .inr (8, [.ref a8, .int (iI x1), .int (iI x2), .int (iI u.2.1), .int (iI u.2.2.1), .int (iI u.2.2.2.1), (va_rf u.2.2.2.2.1), .long u.2.2.2.2.2.1, .int u.2.2.2.2.2.2.1, .int (iI u.2.2.2.2.2.2.2.1), .int (iI u.2.2.2.2.2.2.2.2.1), .int (iI u.2.2.2.2.2.2.2.2.2.1)])), (a2, .inr (9, [.ref a9, .ref a10, .ref a11, .ref a12, .ref a13, .ref a14, .ref a15, .ref a16, .ref a17, .int (iI x9), .int (iI x10), .int (iI x11), .int (iI x12), .int (iI x13), .int (iI x14), .int (iI x15), .int (iI x16), .int (iI x17)])), (a3, .inl (T 5, 40, .inr (.inr (.inr (.inr u.2.2.2.2.2.2.2.2.2.2.1))))), (a4, .inl (T 0, 40, .inl (cI u.2.2.2.2.2.2.2.2.2.2.2.1))), (a5, .inl (T 0, 40, .inl (cI u.2.2.2.2.2.2.2.2.2.2.2.2.1))), (a6, .inl (T 0, 40, .inl (cI u.2.2.2.2.2.2.2.2.2.2.2.2.2))), (a8, .inl (T 0, 940, .inl (cI f3))), (a9, .inl (T 1, 9, .inr (.inl h0))), (a10, .inl (T 0, 9, .inl (cI f4))), (a11, .inl (T 0, 9, .inl (cI f5))), (a12, .inl (T 0, 9, .inl (cI f6))), (a13, .inl (T 0, 9, .inl (cI f7))), (a14, .inl (T 0, 9, .inl (cI f8))), (a15, .inl (T 0, 9, .inl (cI f9))), (a16, .inl (T 1, 3, .inr (.inl h1))), (a17, .inl (T 0, 3, .inl (cI f10)))])) 0 0 (va_A [(a0, .inr (0, [.ref a3, .ref a4, .ref a5, .ref a6, .ref a7, .int (iI x0)])), (a1, .inr (8, [.ref a8, .int (iI x1), .int (iI x2), .int (iI x3), .int (iI x4), .int (iI x5), (va_rf o0), .long y0, .int r0, .int (iI x6), .int (iI x7), .int (iI x8)])), (a2, .inr (9, [.ref a9, .ref a10, .ref a11, .ref a12, .ref a13, .ref a14, .ref a15, .ref a16, .ref a17, .int (iI x9), .int (iI x10), .int (iI x11), .int (iI x12), .int (iI x13), .int (iI x14), .int (iI x15), .int (iI x16), .int (iI x17)])), (a3, .inl (T 5, 40, .inr (.inr (.inr (.inr g0))))), (a4, .inl (T 0, 40, .inl (cI f0))), (a5, .inl (T 0, 40, .inl (cI f1))), (a6, .inl (T 0, 40, .inl (cI f2))), (a8, .inl (T 0, 940, .inl (cI f3))), (a9, .inl (T 1, 9, .inr (.inl h0))), (a10, .inl (T 0, 9, .inl (cI f4))), (a11, .inl (T 0, 9, .inl (cI f5))), (a12, .inl (T 0, 9, .inl (cI f6))), (a13, .inl (T 0, 9, .inl (cI f7))), (a14, .inl (T 0, 9, .inl (cI f8))), (a15, .inl (T 0, 9, .inl (cI f9))), (a16, .inl (T 1, 3, .inr (.inl h1))), (a17, .inl (T 0, 3, .inl (cI f10)))] sz) := by
  refine e_Z (by decide) (Nat.le_of_ble_eq_true rfl) ?_
  intro p e s m args below meth c A Q ls M hin w ret hl
  have hx := M.1.1
  have hb := M.1.2.1
  have hl : lv_has ls 6 [(0, .ref a0), (1, .ref a1), (2, .ref a2)] := hl
  refine lv_aload_n hx hb dX0_readLine_0 rfl (lv_at hl 1 rfl) ?_
  refine r_getN (v := (va_rf o0)) M w 1 6 clX8 rfl (by decide) N171 rfl rfl dX0_readLine_1 ?_
  cases o0 with
  | none =>
    refine lv_astore_nN (lv' := [(3, .null), (0, .ref a0), (1, .ref a1), (2, .ref a2)]) hx hb dX0_readLine_4 rfl hl (by decide) rfl (fun ls hl => ?_)
    refine lv_aload_nN hx hb dX0_readLine_5 rfl (lv_at hl 0 rfl) ?_
    refine r_gets M w 13 rfl G1173 dX0_readLine_6 ?_
    refine lv_acmp_eq (rx := none) (ry := (some (T (10 + 13)))) (tgt := 23) hx hb dX0_readLine_9 (by decide) (fun c => absurd c (by simp)) (fun _ => ?_)
    refine lv_aload_nN hx hb dX0_readLine_12 rfl (lv_at hl 0 rfl) ?_
    refine r_gets M w 14 rfl G1175 dX0_readLine_13 ?_
    refine lv_acmp_eq (rx := none) (ry := (some (T (10 + 14)))) (tgt := 23) hx hb dX0_readLine_16 (by decide) (fun c => absurd c (by simp)) (fun _ => ?_)
    refine lv_iconst (v := iI 1) hx hb dX0_readLine_19 (by decide +kernel) ?_
    refine lv_goto (tgt := 24) hx hb dX0_readLine_20 (by decide) ?_
    refine lv_istore (lv' := [(4, .int (iI 1)), (3, .null), (0, .ref a0), (1, .ref a1), (2, .ref a2)]) hx hb dX0_readLine_24 hl (by decide) rfl (fun ls hl => ?_)
    refine lv_iload hx hb dX0_readLine_26 (lv_at hl 0 rfl) ?_
    refine lv_if_eq (tgt := 39) hx hb dX0_readLine_28 (by decide) (fun c => absurd c (by decide +kernel)) (fun _ => ?_)
    refine lv_aload_n hx hb dX0_readLine_31 rfl (lv_at hl 4 rfl) ?_
    refine lv_aload_n hx hb dX0_readLine_32 rfl (lv_at hl 3 rfl) ?_
    refine k_I (ce := 0) (sl := 0) (rest := []) (wr := [(a0, .inr (0, [.ref a3, .ref a4, .ref a5, .ref a6, .ref a7, .int (iI x0)])), (a3, .inl (T 5, 40, .inr (.inr (.inr (.inr g0))))), (a4, .inl (T 0, 40, .inl (cI f0))), (a5, .inl (T 0, 40, .inl (cI f1))), (a6, .inl (T 0, 40, .inl (cI f2))), (a9, .inl (T 1, 9, .inr (.inl h0))), (a10, .inl (T 0, 9, .inl (cI f4))), (a11, .inl (T 0, 9, .inl (cI f5))), (a12, .inl (T 0, 9, .inl (cI f6))), (a13, .inl (T 0, 9, .inl (cI f7))), (a14, .inl (T 0, 9, .inl (cI f8))), (a15, .inl (T 0, 9, .inl (cI f9))), (a17, .inl (T 0, 3, .inl (cI f10)))]) (r_V (f := 2) [2, 1, 15, 7] M w V_HookedCity_Book_62 G1178 G1179 (c295_X9_maidAt l D T _ a2 a1 a9 a10 a11 a12 a13 a14 a15 a16 a17 x9 x10 x11 x12 x13 x14 x15 x16 x17 a8 x1 x2 x3 x4 x5 none y0 r0 x6 x7 x8 h1 f3 x9_a x9_b x10_a x10_b x11_a x11_b x12_a x12_b x13_a x13_b x14_a x14_b x15_a x15_b x16_a x16_b x17_a x17_b x1_a x1_b x2_a x2_b x3_a x3_b x4_a x4_b x5_a x5_b wok_n x6_a x6_b x7_a x7_b x8_a x8_b f3_h) 2 clX9 rfl rfl (by decide) rfl hl.1 rfl (Nat.le_of_ble_eq_true rfl) dX0_readLine_33 (by decide) (by decide) (by decide) (by decide)) w [2, 1, 15, 7] [0, 3, 4, 5, 6, 8, 9, 10, 11, 12, 13, 14, 16] rfl rfl (by decide) (by decide) rfl rfl (fun v u H locs hp w => ?_)
    obtain ⟨z2, z3, z4⟩ := u
    have hv : iI z2 = v := hp.1
    subst hv
    have z2_a : (-1) ≤ z2 := hp.2.1
    have z2_b : z2 ≤ 2 := hp.2.2.1
    have z3_a : (-2147483648) ≤ z3 := hp.2.2.2.1
    have z3_b : z3 ≤ 2147483647 := hp.2.2.2.2.1
    have z4_a : 0 ≤ z4 := hp.2.2.2.2.2.1
    have z4_b : z4 ≤ 940 := hp.2.2.2.2.2.2.1
    have pq5 : kpF z2 x7 z3 := hp.2.2.2.2.2.2.2.1
    have pq6 : ∀ x : Tk × Int × Int, gC T x x5 x4 x3 y0 r0 x6 none → XV ((sNa h1 x10) x) z2 z3 z4 := hp.2.2.2.2.2.2.2.2
    have w : WD D A s.heap [(a0, .inr (0, [.ref a3, .ref a4, .ref a5, .ref a6, .ref a7, .int (iI x0)])), (a3, .inl (T 5, 40, .inr (.inr (.inr (.inr g0))))), (a4, .inl (T 0, 40, .inl (cI f0))), (a5, .inl (T 0, 40, .inl (cI f1))), (a6, .inl (T 0, 40, .inl (cI f2))), (a9, .inl (T 1, 9, .inr (.inl h0))), (a10, .inl (T 0, 9, .inl (cI f4))), (a11, .inl (T 0, 9, .inl (cI f5))), (a12, .inl (T 0, 9, .inl (cI f6))), (a13, .inl (T 0, 9, .inl (cI f7))), (a14, .inl (T 0, 9, .inl (cI f8))), (a15, .inl (T 0, 9, .inl (cI f9))), (a17, .inl (T 0, 3, .inl (cI f10))), (a2, .inr (9, [.ref a9, .ref a10, .ref a11, .ref a12, .ref a13, .ref a14, .ref a15, .ref a16, .ref a17, .int (iI x9), .int (iI x10), .int (iI x11), .int (iI x12), .int (iI x13), .int (iI x14), .int (iI x15), .int (iI x16), .int (iI x17)])), (a1, .inr (8, [.ref a8, .int (iI x1), .int (iI x2), .int (iI x3), .int (iI x4), .int (iI x5), (va_rf none), .long y0, .int r0, .int (iI x6), .int (iI z3), .int (iI z4)])), (a16, .inl (T 1, 3, .inr (.inl h1))), (a8, .inl (T 0, 940, .inl (cI f3)))] H locs := w
    refine lv_goto (tgt := 40) hx hb dX0_readLine_36 (by decide) ?_
    refine lv_istore (lv' := [(5, .int (iI z2)), (4, .int (iI 1)), (3, .null), (0, .ref a0), (1, .ref a1), (2, .ref a2)]) hx hb dX0_readLine_40 hl (by decide) rfl (fun ls hl => ?_)
    refine lv_iload hx hb dX0_readLine_42 (lv_at hl 1 rfl) ?_
    refine lv_if_eq (tgt := 55) hx hb dX0_readLine_44 (by decide) (fun c => absurd c (by decide +kernel)) (fun _ => ?_)
    refine lv_iload hx hb dX0_readLine_47 (lv_at hl 0 rfl) ?_
    refine lv_iconst (v := iI (-1)) hx hb dX0_readLine_49 (by decide +kernel) ?_
    refine lv_icmp_ne (tgt := 55) hx hb dX0_readLine_50 (by decide) (fun c_7 => ?_) (fun c_7 => ?_)
    · replace c_7 : ¬ z2 = (-1) := fun h => c_7 ((iI_eq (Int.le_trans (by decide) z2_a) (Int.le_trans z2_b (by decide)) (by decide) (by decide)).mpr h)
      refine lv_aload_n hx hb dX0_readLine_55 rfl (lv_at hl 3 rfl) ?_
      refine r_get (v := .int (iI x0)) M w 0 5 clX0 rfl (by decide) G269 rfl rfl dX0_readLine_56 ?_
      refine lv_bipush (v := iI 40) hx hb dX0_readLine_59 (by decide +kernel) ?_
      refine lv_icmp_lt (tgt := 70) hx hb dX0_readLine_61 (by decide) (fun c_8 => ?_) (fun c_8 => ?_)
      · replace c_8 := (iI_lt (Int.le_trans (by decide) x0_a) (Int.le_trans x0_b (by decide)) (by decide) (by decide)).mp c_8
        refine lv_aload_n hx hb dX0_readLine_70 rfl (lv_at hl 4 rfl) ?_
        refine k_V (ce := 0) (sl := 0) (rest := []) (wr := [(a0, .inr (0, [.ref a3, .ref a4, .ref a5, .ref a6, .ref a7, .int (iI x0)])), (a3, .inl (T 5, 40, .inr (.inr (.inr (.inr g0))))), (a4, .inl (T 0, 40, .inl (cI f0))), (a5, .inl (T 0, 40, .inl (cI f1))), (a6, .inl (T 0, 40, .inl (cI f2))), (a9, .inl (T 1, 9, .inr (.inl h0))), (a10, .inl (T 0, 9, .inl (cI f4))), (a11, .inl (T 0, 9, .inl (cI f5))), (a12, .inl (T 0, 9, .inl (cI f6))), (a13, .inl (T 0, 9, .inl (cI f7))), (a14, .inl (T 0, 9, .inl (cI f8))), (a15, .inl (T 0, 9, .inl (cI f9))), (a17, .inl (T 0, 3, .inl (cI f10))), (a2, .inr (9, [.ref a9, .ref a10, .ref a11, .ref a12, .ref a13, .ref a14, .ref a15, .ref a16, .ref a17, .int (iI x9), .int (iI x10), .int (iI x11), .int (iI x12), .int (iI x13), .int (iI x14), .int (iI x15), .int (iI x16), .int (iI x17)])), (a16, .inl (T 1, 3, .inr (.inl h1)))]) (r_V (f := 4) [14, 16] M w V_HookedCity_Book_72 G587 G588 (c266_X8_step l D T _ a1 a8 x1 x2 x3 x4 x5 none y0 r0 x6 z3 z4 f3 x1_a x1_b x2_a x2_b x3_a x3_b x4_a x4_b x5_a x5_b wok_n x6_a x6_b z3_a z3_b z4_a z4_b f3_h) 14 clX8 rfl rfl (by decide) rfl hl.1 rfl (Nat.le_of_ble_eq_true rfl) dX0_readLine_71 (by decide) (by decide) (by decide) (by decide)) w [14, 16] [0, 1, 2, 3, 4, 5, 6, 7, 8, 9, 10, 11, 12, 13, 15] rfl rfl (by decide) (by decide) rfl rfl (fun u H locs hp w => ?_)
        obtain ⟨z9, z10, z11, fo12, fy13, fr14, z15⟩ := u
        have z9_a : 0 ≤ z9 := hp.1
        have z9_b : z9 ≤ 940 := hp.2.1
        have z10_a : 0 ≤ z10 := hp.2.2.1
        have z10_b : z10 ≤ 940 := hp.2.2.2.1
        have z11_a : 0 ≤ z11 := hp.2.2.2.2.1
        have z11_b : z11 ≤ 5 := hp.2.2.2.2.2.1
        have fo12_h : wok T fo12 := hp.2.2.2.2.2.2.1
        have z15_a : (-2147483648) ≤ z15 := hp.2.2.2.2.2.2.2.1
        have z15_b : z15 ≤ 2147483647 := hp.2.2.2.2.2.2.2.2.1
        have pq16 : gC T (tkAt f3 x1 x2 x3) z11 z10 z9 fy13 fr14 z15 fo12 := hp.2.2.2.2.2.2.2.2.2
        have w : WD D A s.heap [(a0, .inr (0, [.ref a3, .ref a4, .ref a5, .ref a6, .ref a7, .int (iI x0)])), (a3, .inl (T 5, 40, .inr (.inr (.inr (.inr g0))))), (a4, .inl (T 0, 40, .inl (cI f0))), (a5, .inl (T 0, 40, .inl (cI f1))), (a6, .inl (T 0, 40, .inl (cI f2))), (a9, .inl (T 1, 9, .inr (.inl h0))), (a10, .inl (T 0, 9, .inl (cI f4))), (a11, .inl (T 0, 9, .inl (cI f5))), (a12, .inl (T 0, 9, .inl (cI f6))), (a13, .inl (T 0, 9, .inl (cI f7))), (a14, .inl (T 0, 9, .inl (cI f8))), (a15, .inl (T 0, 9, .inl (cI f9))), (a17, .inl (T 0, 3, .inl (cI f10))), (a2, .inr (9, [.ref a9, .ref a10, .ref a11, .ref a12, .ref a13, .ref a14, .ref a15, .ref a16, .ref a17, .int (iI x9), .int (iI x10), .int (iI x11), .int (iI x12), .int (iI x13), .int (iI x14), .int (iI x15), .int (iI x16), .int (iI x17)])), (a16, .inl (T 1, 3, .inr (.inl h1))), (a1, .inr (8, [.ref a8, .int (iI x1), .int (iI x2), .int (iI z9), .int (iI z10), .int (iI z11), (va_rf fo12), .long fy13, .int fr14, .int (iI z15), .int (iI z3), .int (iI z4)])), (a8, .inl (T 0, 940, .inl (cI f3)))] H locs := w
        refine lv_aload_n hx hb dX0_readLine_74 rfl (lv_at hl 3 rfl) ?_
        refine r_get (v := .ref a4) M w 0 1 clX0 rfl (by decide) G264 rfl rfl dX0_readLine_75 ?_
        refine lv_aload_n hx hb dX0_readLine_78 rfl (lv_at hl 3 rfl) ?_
        refine r_get (v := .int (iI x0)) M w 0 5 clX0 rfl (by decide) G269 rfl rfl dX0_readLine_79 ?_
        refine lv_iload hx hb dX0_readLine_82 (lv_at hl 0 rfl) ?_
        refine r_iast (ws' := [(a0, .inr (0, [.ref a3, .ref a4, .ref a5, .ref a6, .ref a7, .int (iI x0)])), (a3, .inl (T 5, 40, .inr (.inr (.inr (.inr g0))))), (a4, .inl (T 0, 40, .inl (cI (upz f0 x0 z2)))), (a5, .inl (T 0, 40, .inl (cI f1))), (a6, .inl (T 0, 40, .inl (cI f2))), (a9, .inl (T 1, 9, .inr (.inl h0))), (a10, .inl (T 0, 9, .inl (cI f4))), (a11, .inl (T 0, 9, .inl (cI f5))), (a12, .inl (T 0, 9, .inl (cI f6))), (a13, .inl (T 0, 9, .inl (cI f7))), (a14, .inl (T 0, 9, .inl (cI f8))), (a15, .inl (T 0, 9, .inl (cI f9))), (a17, .inl (T 0, 3, .inl (cI f10))), (a2, .inr (9, [.ref a9, .ref a10, .ref a11, .ref a12, .ref a13, .ref a14, .ref a15, .ref a16, .ref a17, .int (iI x9), .int (iI x10), .int (iI x11), .int (iI x12), .int (iI x13), .int (iI x14), .int (iI x15), .int (iI x16), .int (iI x17)])), (a16, .inl (T 1, 3, .inr (.inl h1))), (a1, .inr (8, [.ref a8, .int (iI x1), .int (iI x2), .int (iI z9), .int (iI z10), .int (iI z11), (va_rf fo12), .long fy13, .int fr14, .int (iI z15), .int (iI z3), .int (iI z4)])), (a8, .inl (T 0, 940, .inl (cI f3)))]) M w 2 rfl (iI_in (by omega) (by omega) (by decide)) (by rw [cI_up (by omega) (by omega)]; rfl) dX0_readLine_84 (fun H locs w => ?_)
        refine lv_aload_n hx hb dX0_readLine_85 rfl (lv_at hl 3 rfl) ?_
        refine r_get (v := .ref a3) M w 0 0 clX0 rfl (by decide) G263 rfl rfl dX0_readLine_86 ?_
        refine lv_aload_n hx hb dX0_readLine_89 rfl (lv_at hl 3 rfl) ?_
        refine r_get (v := .int (iI x0)) M w 0 5 clX0 rfl (by decide) G269 rfl rfl dX0_readLine_90 ?_
        refine lv_aload_nN hx hb dX0_readLine_93 rfl (lv_at hl 2 rfl) ?_
        refine r_wastN (ws' := [(a0, .inr (0, [.ref a3, .ref a4, .ref a5, .ref a6, .ref a7, .int (iI x0)])), (a3, .inl (T 5, 40, .inr (.inr (.inr (.inr (va_up g0 (Int32.toNatClampNeg (iI x0)) none)))))), (a4, .inl (T 0, 40, .inl (cI (upz f0 x0 z2)))), (a5, .inl (T 0, 40, .inl (cI f1))), (a6, .inl (T 0, 40, .inl (cI f2))), (a9, .inl (T 1, 9, .inr (.inl h0))), (a10, .inl (T 0, 9, .inl (cI f4))), (a11, .inl (T 0, 9, .inl (cI f5))), (a12, .inl (T 0, 9, .inl (cI f6))), (a13, .inl (T 0, 9, .inl (cI f7))), (a14, .inl (T 0, 9, .inl (cI f8))), (a15, .inl (T 0, 9, .inl (cI f9))), (a17, .inl (T 0, 3, .inl (cI f10))), (a2, .inr (9, [.ref a9, .ref a10, .ref a11, .ref a12, .ref a13, .ref a14, .ref a15, .ref a16, .ref a17, .int (iI x9), .int (iI x10), .int (iI x11), .int (iI x12), .int (iI x13), .int (iI x14), .int (iI x15), .int (iI x16), .int (iI x17)])), (a16, .inl (T 1, 3, .inr (.inl h1))), (a1, .inr (8, [.ref a8, .int (iI x1), .int (iI x2), .int (iI z9), .int (iI z10), .int (iI z11), (va_rf fo12), .long fy13, .int fr14, .int (iI z15), .int (iI z3), .int (iI z4)])), (a8, .inl (T 0, 940, .inl (cI f3)))]) M w 1 rfl (iI_in (by omega) (by omega) (by decide)) rfl dX0_readLine_94 (fun H locs w => ?_)
        refine lv_iload hx hb dX0_readLine_95 (lv_at hl 1 rfl) ?_
        refine lv_if_eq (tgt := 107) hx hb dX0_readLine_97 (by decide) (fun c => absurd c (by decide +kernel)) (fun _ => ?_)
        refine lv_aload_n hx hb dX0_readLine_100 rfl (lv_at hl 3 rfl) ?_
        refine lv_aload_n hx hb dX0_readLine_101 rfl (lv_at hl 4 rfl) ?_
        refine lv_aload_n hx hb dX0_readLine_102 rfl (lv_at hl 5 rfl) ?_
        refine k_I (ce := 0) (sl := 0) (rest := []) (wr := [(a4, .inl (T 0, 40, .inl (cI (upz f0 x0 z2))))]) (r_V (f := 6) [0, 15, 13, 1, 3, 4, 16, 5, 6, 7, 8, 9, 10, 11, 14, 12] M w V_HookedCity_Book_75 G1185 G31 (c404_X0_readDeed l D T _ a0 a1 a2 a3 a4 a5 a6 a7 x0 a8 x1 x2 z9 z10 z11 fo12 fy13 fr14 z15 z3 z4 a9 a10 a11 a12 a13 a14 a15 a16 a17 x9 x10 x11 x12 x13 x14 x15 x16 x17 (va_up g0 (Int32.toNatClampNeg (iI x0)) none) f1 f2 f3 h0 f4 f5 f6 f7 f8 f9 h1 f10 (by omega) (by omega) x1_a x1_b x2_a x2_b z9_a z9_b z10_a z10_b z11_a z11_b fo12_h z15_a z15_b z3_a z3_b z4_a z4_b x9_a x9_b x10_a x10_b x11_a x11_b x12_a x12_b x13_a x13_b x14_a x14_b x15_a x15_b x16_a x16_b x17_a x17_b (woks_up g0_h wok_n) f1_h f2_h f3_h f4_h f5_h f6_h f7_h f8_h f9_h f10_h) 0 clX0 rfl rfl (by decide) rfl hl.1 rfl (Nat.le_of_ble_eq_true rfl) dX0_readLine_103 (by decide) (by decide) (by decide) (by decide)) w [0, 15, 13, 1, 3, 4, 16, 5, 6, 7, 8, 9, 10, 11, 14, 12] [2] rfl rfl (by decide) (by decide) rfl rfl (fun v u H locs hp w => ?_)
        obtain ⟨z17, z18, z19, z20, fo21, fy22, fr23, z24, z25, z26, fg27, ff28, ff29⟩ := u
        have hv : iI z17 = v := hp.1
        subst hv
        have z17_a : 0 ≤ z17 := hp.2.1
        have z17_b : z17 ≤ 1 := hp.2.2.1
        have z18_a : 0 ≤ z18 := hp.2.2.2.1
        have z18_b : z18 ≤ 940 := hp.2.2.2.2.1
        have z19_a : 0 ≤ z19 := hp.2.2.2.2.2.1
        have z19_b : z19 ≤ 940 := hp.2.2.2.2.2.2.1
        have z20_a : 0 ≤ z20 := hp.2.2.2.2.2.2.2.1
        have z20_b : z20 ≤ 5 := hp.2.2.2.2.2.2.2.2.1
        have fo21_h : wok T fo21 := hp.2.2.2.2.2.2.2.2.2.1
        have z24_a : (-2147483648) ≤ z24 := hp.2.2.2.2.2.2.2.2.2.2.1
        have z24_b : z24 ≤ 2147483647 := hp.2.2.2.2.2.2.2.2.2.2.2.1
        have z25_a : (-2147483648) ≤ z25 := hp.2.2.2.2.2.2.2.2.2.2.2.2.1
        have z25_b : z25 ≤ 2147483647 := hp.2.2.2.2.2.2.2.2.2.2.2.2.2.1
        have z26_a : 0 ≤ z26 := hp.2.2.2.2.2.2.2.2.2.2.2.2.2.2.1
        have z26_b : z26 ≤ 940 := hp.2.2.2.2.2.2.2.2.2.2.2.2.2.2.2.1
        have fg27_h : woks T fg27 := hp.2.2.2.2.2.2.2.2.2.2.2.2.2.2.2.2.1
        have ff28_h : rng (-2147483648) 2147483647 ff28 := hp.2.2.2.2.2.2.2.2.2.2.2.2.2.2.2.2.2.1
        have ff29_h : rng (-1) 8 ff29 := hp.2.2.2.2.2.2.2.2.2.2.2.2.2.2.2.2.2.2.1
        have pq30 : kpo x0 (va_up g0 (Int32.toNatClampNeg (iI x0)) none) fg27 := hp.2.2.2.2.2.2.2.2.2.2.2.2.2.2.2.2.2.2.2.1
        have pq31 : kp x0 f1 ff28 := hp.2.2.2.2.2.2.2.2.2.2.2.2.2.2.2.2.2.2.2.2.1
        have pq32 : kp x0 f2 ff29 := hp.2.2.2.2.2.2.2.2.2.2.2.2.2.2.2.2.2.2.2.2.2.1
        have pq33 : z17 = 1 → ∀ a, 0 ≤ a → bk1 T (fg27 (Int32.toNatClampNeg (iI x0))) a (ff28 x0) (ff29 x0) := hp.2.2.2.2.2.2.2.2.2.2.2.2.2.2.2.2.2.2.2.2.2.2.1
        have pq34 : kpB z17 z3 z25 := hp.2.2.2.2.2.2.2.2.2.2.2.2.2.2.2.2.2.2.2.2.2.2.2.1
        have pq35 : ∀ x : Tk × Int × Int, gC T x z11 z10 z9 fy13 fr14 z15 fo12 → RS (bkD f3 x1 x2 (sNa h0 x9) (x, x0)) z17 z25 z26 (fun y => gC T y z20 z19 z18 fy22 fr23 z24 fo21) x0 := hp.2.2.2.2.2.2.2.2.2.2.2.2.2.2.2.2.2.2.2.2.2.2.2.2
        have w : WD D A s.heap [(a4, .inl (T 0, 40, .inl (cI (upz f0 x0 z2)))), (a0, .inr (0, [.ref a3, .ref a4, .ref a5, .ref a6, .ref a7, .int (iI x0)])), (a1, .inr (8, [.ref a8, .int (iI x1), .int (iI x2), .int (iI z18), .int (iI z19), .int (iI z20), (va_rf fo21), .long fy22, .int fr23, .int (iI z24), .int (iI z25), .int (iI z26)])), (a2, .inr (9, [.ref a9, .ref a10, .ref a11, .ref a12, .ref a13, .ref a14, .ref a15, .ref a16, .ref a17, .int (iI x9), .int (iI x10), .int (iI x11), .int (iI x12), .int (iI x13), .int (iI x14), .int (iI x15), .int (iI x16), .int (iI x17)])), (a3, .inl (T 5, 40, .inr (.inr (.inr (.inr fg27))))), (a5, .inl (T 0, 40, .inl (cI ff28))), (a6, .inl (T 0, 40, .inl (cI ff29))), (a8, .inl (T 0, 940, .inl (cI f3))), (a9, .inl (T 1, 9, .inr (.inl h0))), (a10, .inl (T 0, 9, .inl (cI f4))), (a11, .inl (T 0, 9, .inl (cI f5))), (a12, .inl (T 0, 9, .inl (cI f6))), (a13, .inl (T 0, 9, .inl (cI f7))), (a14, .inl (T 0, 9, .inl (cI f8))), (a15, .inl (T 0, 9, .inl (cI f9))), (a16, .inl (T 1, 3, .inr (.inl h1))), (a17, .inl (T 0, 3, .inl (cI f10)))] H locs := w
        exact ret _ (z17, z18, z19, z20, fo21, fy22, fr23, z24, z25, z26, fg27, (upz f0 x0 z2), ff28, ff29) _ _ _ _ _ [1, 2, 3, 4, 0, 5, 6, 7, 8, 9, 10, 11, 12, 13, 14, 15, 16] dX0_readLine_106 (nb_n (by omega) (by omega)) ⟨rfl, z17_a, z17_b, z18_a, z18_b, z19_a, z19_b, z20_a, z20_b, fo21_h, z24_a, z24_b, z25_a, z25_b, z26_a, z26_b, fg27_h, (rng_up f0_h (by omega) (by omega)), ff28_h, ff29_h, (show 0 ≤ ((79 - x0) - (z17 * 40)) from by omega), (show z17 = 1 → bkI T fg27 (upz f0 x0 z2) ff28 ff29 (x0 + 1) from (fun h => bkI_s pp_b (by omega) (by omega) (kpo_tr (kpo_up kpo_rfl (by omega) (by omega) (by omega)) pq30) (kp_up kp_rfl (by omega)) (kp_tr kp_rfl pq31) (kp_tr kp_rfl pq32) (by have e9 := upz_s f0 x0 z2; rw [e9]; exact pq33 h _ (by omega)))), (show kpB z17 x7 z25 from (fun hr => by have y0 := pq5 (by omega); have y2 := pq34 (by omega); omega)), (show ∀ x : Tk × Int × Int, gC T x x5 x4 x3 y0 r0 x6 none → RS (bkL f3 x1 x2 (sNa h0 x9) (sNa h1 x10) (x, x0)) z17 z25 z26 (fun y => gC T y z20 z19 z18 fy22 fr23 z24 fo21) x0 from (fun x g => bl_o (cw_n g (j := 13) (by decide)) (cw_n g (j := 14) (by decide)) (bnX_1 (pq6 x g) (by omega) (fun _ => if_o (by omega) (pq35 _ (gC_nx g pq16))))))⟩ w (by decide) rfl
      · replace c_8 : 40 ≤ x0 := Int.not_lt.mp (fun h => c_8 ((iI_lt (Int.le_trans (by decide) x0_a) (Int.le_trans x0_b (by decide)) (by decide) (by decide)).mpr h))
        refine lv_aload_n hx hb dX0_readLine_64 rfl (lv_at hl 4 rfl) ?_
        refine lv_iconst (v := iI 4) hx hb dX0_readLine_65 (by decide +kernel) ?_
        refine k_I (ce := 0) (sl := 0) (rest := []) (wr := [(a0, .inr (0, [.ref a3, .ref a4, .ref a5, .ref a6, .ref a7, .int (iI x0)])), (a3, .inl (T 5, 40, .inr (.inr (.inr (.inr g0))))), (a4, .inl (T 0, 40, .inl (cI f0))), (a5, .inl (T 0, 40, .inl (cI f1))), (a6, .inl (T 0, 40, .inl (cI f2))), (a9, .inl (T 1, 9, .inr (.inl h0))), (a10, .inl (T 0, 9, .inl (cI f4))), (a11, .inl (T 0, 9, .inl (cI f5))), (a12, .inl (T 0, 9, .inl (cI f6))), (a13, .inl (T 0, 9, .inl (cI f7))), (a14, .inl (T 0, 9, .inl (cI f8))), (a15, .inl (T 0, 9, .inl (cI f9))), (a17, .inl (T 0, 3, .inl (cI f10))), (a2, .inr (9, [.ref a9, .ref a10, .ref a11, .ref a12, .ref a13, .ref a14, .ref a15, .ref a16, .ref a17, .int (iI x9), .int (iI x10), .int (iI x11), .int (iI x12), .int (iI x13), .int (iI x14), .int (iI x15), .int (iI x16), .int (iI x17)])), (a16, .inl (T 1, 3, .inr (.inl h1))), (a8, .inl (T 0, 940, .inl (cI f3)))]) (r_V (f := 0) [14] M w V_HookedCity_Book_68 G710 G711 (c271_X8_fail l D T _ a1 4 a8 x1 x2 x3 x4 x5 none y0 r0 x6 z3 z4 (by decide) (by decide) x1_a x1_b x2_a x2_b x3_a x3_b x4_a x4_b x5_a x5_b wok_n x6_a x6_b z3_a z3_b z4_a z4_b) 14 clX8 rfl rfl (by decide) rfl hl.1 rfl (Nat.le_of_ble_eq_true rfl) dX0_readLine_66 (by decide) (by decide) (by decide) (by decide)) w [14] [0, 1, 2, 3, 4, 5, 6, 7, 8, 9, 10, 11, 12, 13, 15, 16] rfl rfl (by decide) (by decide) rfl rfl (fun v u H locs hp w => ?_)
        obtain ⟨z36, z37, z38⟩ := u
        have hv : iI z36 = v := hp.1
        subst hv
        have z36_a : 0 ≤ z36 := hp.2.1
        have z36_b : z36 ≤ 1 := hp.2.2.1
        have z37_a : (-2147483648) ≤ z37 := hp.2.2.2.1
        have z37_b : z37 ≤ 2147483647 := hp.2.2.2.2.1
        have z38_a : 0 ≤ z38 := hp.2.2.2.2.2.1
        have z38_b : z38 ≤ 940 := hp.2.2.2.2.2.2.1
        have pq39 : z37 = 4 := hp.2.2.2.2.2.2.2.1
        have pq40 : z38 = x4 := hp.2.2.2.2.2.2.2.2.1
        have w : WD D A s.heap [(a0, .inr (0, [.ref a3, .ref a4, .ref a5, .ref a6, .ref a7, .int (iI x0)])), (a3, .inl (T 5, 40, .inr (.inr (.inr (.inr g0))))), (a4, .inl (T 0, 40, .inl (cI f0))), (a5, .inl (T 0, 40, .inl (cI f1))), (a6, .inl (T 0, 40, .inl (cI f2))), (a9, .inl (T 1, 9, .inr (.inl h0))), (a10, .inl (T 0, 9, .inl (cI f4))), (a11, .inl (T 0, 9, .inl (cI f5))), (a12, .inl (T 0, 9, .inl (cI f6))), (a13, .inl (T 0, 9, .inl (cI f7))), (a14, .inl (T 0, 9, .inl (cI f8))), (a15, .inl (T 0, 9, .inl (cI f9))), (a17, .inl (T 0, 3, .inl (cI f10))), (a2, .inr (9, [.ref a9, .ref a10, .ref a11, .ref a12, .ref a13, .ref a14, .ref a15, .ref a16, .ref a17, .int (iI x9), .int (iI x10), .int (iI x11), .int (iI x12), .int (iI x13), .int (iI x14), .int (iI x15), .int (iI x16), .int (iI x17)])), (a16, .inl (T 1, 3, .inr (.inl h1))), (a8, .inl (T 0, 940, .inl (cI f3))), (a1, .inr (8, [.ref a8, .int (iI x1), .int (iI x2), .int (iI x3), .int (iI x4), .int (iI x5), (va_rf none), .long y0, .int r0, .int (iI x6), .int (iI z37), .int (iI z38)]))] H locs := w
        rcases hp.2.2.2.2.2.2.2.2.2 with hr
        · subst hr
          exact ret _ (0, x3, x4, x5, none, y0, r0, x6, z37, z38, g0, f0, f1, f2) _ _ _ _ _ [0, 16, 13, 1, 2, 3, 4, 15, 5, 6, 7, 8, 9, 10, 11, 14, 12] dX0_readLine_69 (by decide +kernel) ⟨rfl, (show (0 : Int) ≤ 0 from by decide), (show (0 : Int) ≤ 1 from by decide), x3_a, x3_b, x4_a, x4_b, x5_a, x5_b, wok_n, x6_a, x6_b, z37_a, z37_b, z38_a, z38_b, g0_h, f0_h, f1_h, f2_h, (show 0 ≤ ((79 - x0) - (0 * 40)) from by omega), (show 0 = 1 → bkI T g0 f0 f1 f2 (x0 + 1) from (fun h => absurd h (by decide))), (show kpB 0 x7 z37 from (fun e => absurd e (by decide))), (show ∀ x : Tk × Int × Int, gC T x x5 x4 x3 y0 r0 x6 none → RS (bkL f3 x1 x2 (sNa h0 x9) (sNa h1 x10) (x, x0)) 0 z37 z38 (fun y => gC T y x5 x4 x3 y0 r0 x6 none) x0 from (fun x g => bl_o (cw_n g (j := 13) (by decide)) (cw_n g (j := 14) (by decide)) (bnX_1 (pq6 x g) (by omega) (fun _ => if_4 (by omega) (by omega) (pq40.trans g.1)))))⟩ w (by decide) rfl
    · replace c_7 := (iI_eq (Int.le_trans (by decide) z2_a) (Int.le_trans z2_b (by decide)) (by decide) (by decide)).mp c_7
      refine lv_iconst (v := iI 0) hx hb dX0_readLine_53 (by decide +kernel) ?_
      exact ret _ (0, x3, x4, x5, none, y0, r0, x6, z3, z4, g0, f0, f1, f2) _ _ _ _ _ [0, 14, 13, 1, 2, 3, 4, 16, 5, 6, 7, 8, 9, 10, 11, 15, 12] dX0_readLine_54 (by decide +kernel) ⟨rfl, (show (0 : Int) ≤ 0 from by decide), (show (0 : Int) ≤ 1 from by decide), x3_a, x3_b, x4_a, x4_b, x5_a, x5_b, wok_n, x6_a, x6_b, z3_a, z3_b, z4_a, z4_b, g0_h, f0_h, f1_h, f2_h, (show 0 ≤ ((79 - x0) - (0 * 40)) from by omega), (show 0 = 1 → bkI T g0 f0 f1 f2 (x0 + 1) from (fun h => absurd h (by decide))), (show kpB 0 x7 z3 from (fun e => absurd e (by decide))), (show ∀ x : Tk × Int × Int, gC T x x5 x4 x3 y0 r0 x6 none → RS (bkL f3 x1 x2 (sNa h0 x9) (sNa h1 x10) (x, x0)) 0 z3 z4 (fun y => gC T y x5 x4 x3 y0 r0 x6 none) x0 from (fun x g => bl_o (cw_n g (j := 13) (by decide)) (cw_n g (j := 14) (by decide)) (bnX_0 (pq6 x g) (by omega))))⟩ w (by decide) rfl
  | some qq1 =>
    refine lv_astore_n (lv' := [(3, .ref qq1), (0, .ref a0), (1, .ref a1), (2, .ref a2)]) hx hb dX0_readLine_4 rfl hl (by decide) rfl (fun ls hl => ?_)
    refine lv_aload_n hx hb dX0_readLine_5 rfl (lv_at hl 0 rfl) ?_
    refine r_gets M w 13 rfl G1173 dX0_readLine_6 ?_
    refine lv_acmp_eq (rx := (some qq1)) (ry := (some (T (10 + 13)))) (tgt := 23) hx hb dX0_readLine_9 (by decide) (fun c_41 => ?_) (fun c_41 => ?_)
    · refine lv_iconst (v := iI 0) hx hb dX0_readLine_23 (by decide +kernel) ?_
      refine lv_istore (lv' := [(4, .int (iI 0)), (3, .ref qq1), (0, .ref a0), (1, .ref a1), (2, .ref a2)]) hx hb dX0_readLine_24 hl (by decide) rfl (fun ls hl => ?_)
      refine lv_iload hx hb dX0_readLine_26 (lv_at hl 0 rfl) ?_
      refine lv_if_eq (tgt := 39) hx hb dX0_readLine_28 (by decide) (fun _ => ?_) (fun c => absurd (by decide +kernel) c)
      refine lv_iconst (v := iI (-1)) hx hb dX0_readLine_39 (by decide +kernel) ?_
      refine lv_istore (lv' := [(5, .int (iI (-1))), (4, .int (iI 0)), (3, .ref qq1), (0, .ref a0), (1, .ref a1), (2, .ref a2)]) hx hb dX0_readLine_40 hl (by decide) rfl (fun ls hl => ?_)
      refine lv_iload hx hb dX0_readLine_42 (lv_at hl 1 rfl) ?_
      refine lv_if_eq (tgt := 55) hx hb dX0_readLine_44 (by decide) (fun _ => ?_) (fun c => absurd (by decide +kernel) c)
      refine lv_aload_n hx hb dX0_readLine_55 rfl (lv_at hl 3 rfl) ?_
      refine r_get (v := .int (iI x0)) M w 0 5 clX0 rfl (by decide) G269 rfl rfl dX0_readLine_56 ?_
      refine lv_bipush (v := iI 40) hx hb dX0_readLine_59 (by decide +kernel) ?_
      refine lv_icmp_lt (tgt := 70) hx hb dX0_readLine_61 (by decide) (fun c_42 => ?_) (fun c_42 => ?_)
      · replace c_42 := (iI_lt (Int.le_trans (by decide) x0_a) (Int.le_trans x0_b (by decide)) (by decide) (by decide)).mp c_42
        refine lv_aload_n hx hb dX0_readLine_70 rfl (lv_at hl 4 rfl) ?_
        refine k_V (ce := 0) (sl := 0) (rest := []) (wr := [(a0, .inr (0, [.ref a3, .ref a4, .ref a5, .ref a6, .ref a7, .int (iI x0)])), (a2, .inr (9, [.ref a9, .ref a10, .ref a11, .ref a12, .ref a13, .ref a14, .ref a15, .ref a16, .ref a17, .int (iI x9), .int (iI x10), .int (iI x11), .int (iI x12), .int (iI x13), .int (iI x14), .int (iI x15), .int (iI x16), .int (iI x17)])), (a3, .inl (T 5, 40, .inr (.inr (.inr (.inr g0))))), (a4, .inl (T 0, 40, .inl (cI f0))), (a5, .inl (T 0, 40, .inl (cI f1))), (a6, .inl (T 0, 40, .inl (cI f2))), (a9, .inl (T 1, 9, .inr (.inl h0))), (a10, .inl (T 0, 9, .inl (cI f4))), (a11, .inl (T 0, 9, .inl (cI f5))), (a12, .inl (T 0, 9, .inl (cI f6))), (a13, .inl (T 0, 9, .inl (cI f7))), (a14, .inl (T 0, 9, .inl (cI f8))), (a15, .inl (T 0, 9, .inl (cI f9))), (a16, .inl (T 1, 3, .inr (.inl h1))), (a17, .inl (T 0, 3, .inl (cI f10)))]) (r_V (f := 4) [1, 7] M w V_HookedCity_Book_72 G587 G588 (c266_X8_step l D T _ a1 a8 x1 x2 x3 x4 x5 (some qq1) y0 r0 x6 x7 x8 f3 x1_a x1_b x2_a x2_b x3_a x3_b x4_a x4_b x5_a x5_b o0_h x6_a x6_b x7_a x7_b x8_a x8_b f3_h) 1 clX8 rfl rfl (by decide) rfl hl.1 rfl (Nat.le_of_ble_eq_true rfl) dX0_readLine_71 (by decide) (by decide) (by decide) (by decide)) w [1, 7] [0, 2, 3, 4, 5, 6, 8, 9, 10, 11, 12, 13, 14, 15, 16] rfl rfl (by decide) (by decide) rfl rfl (fun u H locs hp w => ?_)
        obtain ⟨z43, z44, z45, fo46, fy47, fr48, z49⟩ := u
        have z43_a : 0 ≤ z43 := hp.1
        have z43_b : z43 ≤ 940 := hp.2.1
        have z44_a : 0 ≤ z44 := hp.2.2.1
        have z44_b : z44 ≤ 940 := hp.2.2.2.1
        have z45_a : 0 ≤ z45 := hp.2.2.2.2.1
        have z45_b : z45 ≤ 5 := hp.2.2.2.2.2.1
        have fo46_h : wok T fo46 := hp.2.2.2.2.2.2.1
        have z49_a : (-2147483648) ≤ z49 := hp.2.2.2.2.2.2.2.1
        have z49_b : z49 ≤ 2147483647 := hp.2.2.2.2.2.2.2.2.1
        have pq50 : gC T (tkAt f3 x1 x2 x3) z45 z44 z43 fy47 fr48 z49 fo46 := hp.2.2.2.2.2.2.2.2.2
        have w : WD D A s.heap [(a0, .inr (0, [.ref a3, .ref a4, .ref a5, .ref a6, .ref a7, .int (iI x0)])), (a2, .inr (9, [.ref a9, .ref a10, .ref a11, .ref a12, .ref a13, .ref a14, .ref a15, .ref a16, .ref a17, .int (iI x9), .int (iI x10), .int (iI x11), .int (iI x12), .int (iI x13), .int (iI x14), .int (iI x15), .int (iI x16), .int (iI x17)])), (a3, .inl (T 5, 40, .inr (.inr (.inr (.inr g0))))), (a4, .inl (T 0, 40, .inl (cI f0))), (a5, .inl (T 0, 40, .inl (cI f1))), (a6, .inl (T 0, 40, .inl (cI f2))), (a9, .inl (T 1, 9, .inr (.inl h0))), (a10, .inl (T 0, 9, .inl (cI f4))), (a11, .inl (T 0, 9, .inl (cI f5))), (a12, .inl (T 0, 9, .inl (cI f6))), (a13, .inl (T 0, 9, .inl (cI f7))), (a14, .inl (T 0, 9, .inl (cI f8))), (a15, .inl (T 0, 9, .inl (cI f9))), (a16, .inl (T 1, 3, .inr (.inl h1))), (a17, .inl (T 0, 3, .inl (cI f10))), (a1, .inr (8, [.ref a8, .int (iI x1), .int (iI x2), .int (iI z43), .int (iI z44), .int (iI z45), (va_rf fo46), .long fy47, .int fr48, .int (iI z49), .int (iI x7), .int (iI x8)])), (a8, .inl (T 0, 940, .inl (cI f3)))] H locs := w
        refine lv_aload_n hx hb dX0_readLine_74 rfl (lv_at hl 3 rfl) ?_
        refine r_get (v := .ref a4) M w 0 1 clX0 rfl (by decide) G264 rfl rfl dX0_readLine_75 ?_
        refine lv_aload_n hx hb dX0_readLine_78 rfl (lv_at hl 3 rfl) ?_
        refine r_get (v := .int (iI x0)) M w 0 5 clX0 rfl (by decide) G269 rfl rfl dX0_readLine_79 ?_
        refine lv_iload hx hb dX0_readLine_82 (lv_at hl 0 rfl) ?_
        refine r_iast (ws' := [(a0, .inr (0, [.ref a3, .ref a4, .ref a5, .ref a6, .ref a7, .int (iI x0)])), (a2, .inr (9, [.ref a9, .ref a10, .ref a11, .ref a12, .ref a13, .ref a14, .ref a15, .ref a16, .ref a17, .int (iI x9), .int (iI x10), .int (iI x11), .int (iI x12), .int (iI x13), .int (iI x14), .int (iI x15), .int (iI x16), .int (iI x17)])), (a3, .inl (T 5, 40, .inr (.inr (.inr (.inr g0))))), (a4, .inl (T 0, 40, .inl (cI (upz f0 x0 (-1))))), (a5, .inl (T 0, 40, .inl (cI f1))), (a6, .inl (T 0, 40, .inl (cI f2))), (a9, .inl (T 1, 9, .inr (.inl h0))), (a10, .inl (T 0, 9, .inl (cI f4))), (a11, .inl (T 0, 9, .inl (cI f5))), (a12, .inl (T 0, 9, .inl (cI f6))), (a13, .inl (T 0, 9, .inl (cI f7))), (a14, .inl (T 0, 9, .inl (cI f8))), (a15, .inl (T 0, 9, .inl (cI f9))), (a16, .inl (T 1, 3, .inr (.inl h1))), (a17, .inl (T 0, 3, .inl (cI f10))), (a1, .inr (8, [.ref a8, .int (iI x1), .int (iI x2), .int (iI z43), .int (iI z44), .int (iI z45), (va_rf fo46), .long fy47, .int fr48, .int (iI z49), .int (iI x7), .int (iI x8)])), (a8, .inl (T 0, 940, .inl (cI f3)))]) M w 3 rfl (iI_in (by omega) (by omega) (by decide)) (by rw [cI_up (by omega) (by omega)]; rfl) dX0_readLine_84 (fun H locs w => ?_)
        refine lv_aload_n hx hb dX0_readLine_85 rfl (lv_at hl 3 rfl) ?_
        refine r_get (v := .ref a3) M w 0 0 clX0 rfl (by decide) G263 rfl rfl dX0_readLine_86 ?_
        refine lv_aload_n hx hb dX0_readLine_89 rfl (lv_at hl 3 rfl) ?_
        refine r_get (v := .int (iI x0)) M w 0 5 clX0 rfl (by decide) G269 rfl rfl dX0_readLine_90 ?_
        refine lv_aload_n hx hb dX0_readLine_93 rfl (lv_at hl 2 rfl) ?_
        refine r_wast (ws' := [(a0, .inr (0, [.ref a3, .ref a4, .ref a5, .ref a6, .ref a7, .int (iI x0)])), (a2, .inr (9, [.ref a9, .ref a10, .ref a11, .ref a12, .ref a13, .ref a14, .ref a15, .ref a16, .ref a17, .int (iI x9), .int (iI x10), .int (iI x11), .int (iI x12), .int (iI x13), .int (iI x14), .int (iI x15), .int (iI x16), .int (iI x17)])), (a3, .inl (T 5, 40, .inr (.inr (.inr (.inr (va_up g0 (Int32.toNatClampNeg (iI x0)) (some qq1))))))), (a4, .inl (T 0, 40, .inl (cI (upz f0 x0 (-1))))), (a5, .inl (T 0, 40, .inl (cI f1))), (a6, .inl (T 0, 40, .inl (cI f2))), (a9, .inl (T 1, 9, .inr (.inl h0))), (a10, .inl (T 0, 9, .inl (cI f4))), (a11, .inl (T 0, 9, .inl (cI f5))), (a12, .inl (T 0, 9, .inl (cI f6))), (a13, .inl (T 0, 9, .inl (cI f7))), (a14, .inl (T 0, 9, .inl (cI f8))), (a15, .inl (T 0, 9, .inl (cI f9))), (a16, .inl (T 1, 3, .inr (.inl h1))), (a17, .inl (T 0, 3, .inl (cI f10))), (a1, .inr (8, [.ref a8, .int (iI x1), .int (iI x2), .int (iI z43), .int (iI z44), .int (iI z45), (va_rf fo46), .long fy47, .int fr48, .int (iI z49), .int (iI x7), .int (iI x8)])), (a8, .inl (T 0, 940, .inl (cI f3)))]) M w 2 rfl o0_h (iI_in (by omega) (by omega) (by decide)) rfl dX0_readLine_94 (fun H locs w => ?_)
        refine lv_iload hx hb dX0_readLine_95 (lv_at hl 1 rfl) ?_
        refine lv_if_eq (tgt := 107) hx hb dX0_readLine_97 (by decide) (fun _ => ?_) (fun c => absurd (by decide +kernel) c)
        refine lv_aload_n hx hb dX0_readLine_107 rfl (lv_at hl 2 rfl) ?_
        refine r_gets M w 14 rfl G1175 dX0_readLine_108 ?_
        refine lv_acmp_ne (rx := (some qq1)) (ry := (some (T (10 + 14)))) (tgt := 122) hx hb dX0_readLine_111 (by decide) (fun c_51 => ?_) (fun c_51 => ?_)
        · refine lv_aload_n hx hb dX0_readLine_122 rfl (lv_at hl 3 rfl) ?_
          refine lv_aload_n hx hb dX0_readLine_123 rfl (lv_at hl 4 rfl) ?_
          refine lv_aload_n hx hb dX0_readLine_124 rfl (lv_at hl 5 rfl) ?_
          refine k_I (ce := 0) (sl := 0) (rest := []) (wr := [(a3, .inl (T 5, 40, .inr (.inr (.inr (.inr (va_up g0 (Int32.toNatClampNeg (iI x0)) (some qq1))))))), (a4, .inl (T 0, 40, .inl (cI (upz f0 x0 (-1))))), (a6, .inl (T 0, 40, .inl (cI f2)))]) (r_V (f := 5) [0, 15, 1, 4, 16, 6, 7, 8, 9, 10, 11, 12, 13, 14] M w V_HookedCity_Book_82 G1193 G32 (c403_X0_readFirst l D T _ a0 a1 a2 a3 a4 a5 a6 a7 x0 a8 x1 x2 z43 z44 z45 fo46 fy47 fr48 z49 x7 x8 a9 a10 a11 a12 a13 a14 a15 a16 a17 x9 x10 x11 x12 x13 x14 x15 x16 x17 f1 f3 h0 f4 f5 f6 f7 f8 f9 h1 f10 (by omega) (by omega) x1_a x1_b x2_a x2_b z43_a z43_b z44_a z44_b z45_a z45_b fo46_h z49_a z49_b x7_a x7_b x8_a x8_b x9_a x9_b x10_a x10_b x11_a x11_b x12_a x12_b x13_a x13_b x14_a x14_b x15_a x15_b x16_a x16_b x17_a x17_b f1_h f3_h f4_h f5_h f6_h f7_h f8_h f9_h f10_h) 0 clX0 rfl rfl (by decide) rfl hl.1 rfl (Nat.le_of_ble_eq_true rfl) dX0_readLine_125 (by decide) (by decide) (by decide) (by decide)) w [0, 15, 1, 4, 16, 6, 7, 8, 9, 10, 11, 12, 13, 14] [2, 3, 5] rfl rfl (by decide) (by decide) rfl rfl (fun v u H locs hp w => ?_)
          obtain ⟨z52, z53, z54, z55, fo56, fy57, fr58, z59, z60, z61, ff62⟩ := u
          have hv : iI z52 = v := hp.1
          subst hv
          have z52_a : 0 ≤ z52 := hp.2.1
          have z52_b : z52 ≤ 1 := hp.2.2.1
          have z53_a : 0 ≤ z53 := hp.2.2.2.1
          have z53_b : z53 ≤ 940 := hp.2.2.2.2.1
          have z54_a : 0 ≤ z54 := hp.2.2.2.2.2.1
          have z54_b : z54 ≤ 940 := hp.2.2.2.2.2.2.1
          have z55_a : 0 ≤ z55 := hp.2.2.2.2.2.2.2.1
          have z55_b : z55 ≤ 5 := hp.2.2.2.2.2.2.2.2.1
          have fo56_h : wok T fo56 := hp.2.2.2.2.2.2.2.2.2.1
          have z59_a : (-2147483648) ≤ z59 := hp.2.2.2.2.2.2.2.2.2.2.1
          have z59_b : z59 ≤ 2147483647 := hp.2.2.2.2.2.2.2.2.2.2.2.1
          have z60_a : (-2147483648) ≤ z60 := hp.2.2.2.2.2.2.2.2.2.2.2.2.1
          have z60_b : z60 ≤ 2147483647 := hp.2.2.2.2.2.2.2.2.2.2.2.2.2.1
          have z61_a : 0 ≤ z61 := hp.2.2.2.2.2.2.2.2.2.2.2.2.2.2.1
          have z61_b : z61 ≤ 940 := hp.2.2.2.2.2.2.2.2.2.2.2.2.2.2.2.1
          have ff62_h : rng (-2147483648) 2147483647 ff62 := hp.2.2.2.2.2.2.2.2.2.2.2.2.2.2.2.2.1
          have pq63 : kp x0 f1 ff62 := hp.2.2.2.2.2.2.2.2.2.2.2.2.2.2.2.2.2.1
          have pq64 : z52 = 1 → 0 ≤ ff62 x0 ∧ ff62 x0 ≤ 8 := hp.2.2.2.2.2.2.2.2.2.2.2.2.2.2.2.2.2.2.1
          have pq65 : kpB z52 x7 z60 := hp.2.2.2.2.2.2.2.2.2.2.2.2.2.2.2.2.2.2.2.1
          have pq66 : ∀ x : Tk × Int × Int, gC T x z45 z44 z43 fy47 fr48 z49 fo46 → RS (bkP f3 x1 x2 (sNa h0 x9) (x, x0)) z52 z60 z61 (fun y => gC T y z55 z54 z53 fy57 fr58 z59 fo56) x0 := hp.2.2.2.2.2.2.2.2.2.2.2.2.2.2.2.2.2.2.2.2
          have w : WD D A s.heap [(a3, .inl (T 5, 40, .inr (.inr (.inr (.inr (va_up g0 (Int32.toNatClampNeg (iI x0)) (some qq1))))))), (a4, .inl (T 0, 40, .inl (cI (upz f0 x0 (-1))))), (a6, .inl (T 0, 40, .inl (cI f2))), (a0, .inr (0, [.ref a3, .ref a4, .ref a5, .ref a6, .ref a7, .int (iI x0)])), (a1, .inr (8, [.ref a8, .int (iI x1), .int (iI x2), .int (iI z53), .int (iI z54), .int (iI z55), (va_rf fo56), .long fy57, .int fr58, .int (iI z59), .int (iI z60), .int (iI z61)])), (a2, .inr (9, [.ref a9, .ref a10, .ref a11, .ref a12, .ref a13, .ref a14, .ref a15, .ref a16, .ref a17, .int (iI x9), .int (iI x10), .int (iI x11), .int (iI x12), .int (iI x13), .int (iI x14), .int (iI x15), .int (iI x16), .int (iI x17)])), (a5, .inl (T 0, 40, .inl (cI ff62))), (a8, .inl (T 0, 940, .inl (cI f3))), (a9, .inl (T 1, 9, .inr (.inl h0))), (a10, .inl (T 0, 9, .inl (cI f4))), (a11, .inl (T 0, 9, .inl (cI f5))), (a12, .inl (T 0, 9, .inl (cI f6))), (a13, .inl (T 0, 9, .inl (cI f7))), (a14, .inl (T 0, 9, .inl (cI f8))), (a15, .inl (T 0, 9, .inl (cI f9))), (a16, .inl (T 1, 3, .inr (.inl h1))), (a17, .inl (T 0, 3, .inl (cI f10)))] H locs := w
          exact ret _ (z52, z53, z54, z55, fo56, fy57, fr58, z59, z60, z61, (va_up g0 (Int32.toNatClampNeg (iI x0)) (some qq1)), (upz f0 x0 (-1)), ff62, f2) _ _ _ _ _ [3, 4, 5, 0, 1, 6, 2, 7, 8, 9, 10, 11, 12, 13, 14, 15, 16] dX0_readLine_128 (nb_n (by omega) (by omega)) ⟨rfl, z52_a, z52_b, z53_a, z53_b, z54_a, z54_b, z55_a, z55_b, fo56_h, z59_a, z59_b, z60_a, z60_b, z61_a, z61_b, (woks_up g0_h o0_h), (rng_up f0_h (by omega) (by omega)), ff62_h, f2_h, (show 0 ≤ ((79 - x0) - (z52 * 40)) from by omega), (show z52 = 1 → bkI T (va_up g0 (Int32.toNatClampNeg (iI x0)) (some qq1)) (upz f0 x0 (-1)) ff62 f2 (x0 + 1) from (fun h => bkI_s pp_b (by omega) (by omega) (kpo_up kpo_rfl (by omega) (by omega) (by omega)) (kp_up kp_rfl (by omega)) (kp_tr kp_rfl pq63) kp_rfl (by rw [va_up_self]; exact bk1_m M.2.2.2.2.2.2.2.2.2 c_41 (pq64 h)))), (show kpB z52 x7 z60 from pq65), (show ∀ x : Tk × Int × Int, gC T x x5 x4 x3 y0 r0 x6 (some qq1) → RS (bkL f3 x1 x2 (sNa h0 x9) (sNa h1 x10) (x, x0)) z52 z60 z61 (fun y => gC T y z55 z54 z53 fy57 fr58 z59 fo56) x0 from (fun x g => bl_m (cw_1 M.2.2.2.2.2.2.2.2.2 g (j := 13) (by decide) c_41) (by omega) (pq66 _ (gC_nx g pq50))))⟩ w (by decide) rfl
        · refine lv_aload_n hx hb dX0_readLine_114 rfl (lv_at hl 3 rfl) ?_
          refine lv_aload_n hx hb dX0_readLine_115 rfl (lv_at hl 4 rfl) ?_
          refine k_I (ce := 0) (sl := 0) (rest := []) (wr := [(a2, .inr (9, [.ref a9, .ref a10, .ref a11, .ref a12, .ref a13, .ref a14, .ref a15, .ref a16, .ref a17, .int (iI x9), .int (iI x10), .int (iI x11), .int (iI x12), .int (iI x13), .int (iI x14), .int (iI x15), .int (iI x16), .int (iI x17)])), (a3, .inl (T 5, 40, .inr (.inr (.inr (.inr (va_up g0 (Int32.toNatClampNeg (iI x0)) (some qq1))))))), (a4, .inl (T 0, 40, .inl (cI (upz f0 x0 (-1))))), (a6, .inl (T 0, 40, .inl (cI f2))), (a9, .inl (T 1, 9, .inr (.inl h0))), (a10, .inl (T 0, 9, .inl (cI f4))), (a11, .inl (T 0, 9, .inl (cI f5))), (a12, .inl (T 0, 9, .inl (cI f6))), (a13, .inl (T 0, 9, .inl (cI f7))), (a14, .inl (T 0, 9, .inl (cI f8))), (a15, .inl (T 0, 9, .inl (cI f9))), (a16, .inl (T 1, 3, .inr (.inl h1))), (a17, .inl (T 0, 3, .inl (cI f10)))]) (r_V (f := 5) [0, 15, 4, 16] M w V_HookedCity_Book_78 G1198 G33 (c405_X0_readDays l D T _ a0 a1 a3 a4 a5 a6 a7 x0 a8 x1 x2 z43 z44 z45 fo46 fy47 fr48 z49 x7 x8 f1 f3 (by omega) (by omega) x1_a x1_b x2_a x2_b z43_a z43_b z44_a z44_b z45_a z45_b fo46_h z49_a z49_b x7_a x7_b x8_a x8_b f1_h f3_h) 0 clX0 rfl rfl (by decide) rfl hl.1 rfl (Nat.le_of_ble_eq_true rfl) dX0_readLine_116 (by decide) (by decide) (by decide) (by decide)) w [0, 15, 4, 16] [1, 2, 3, 5, 6, 7, 8, 9, 10, 11, 12, 13, 14] rfl rfl (by decide) (by decide) rfl rfl (fun v u H locs hp w => ?_)
          obtain ⟨z67, z68, z69, z70, fo71, fy72, fr73, z74, z75, z76, ff77⟩ := u
          have hv : iI z67 = v := hp.1
          subst hv
          have z67_a : 0 ≤ z67 := hp.2.1
          have z67_b : z67 ≤ 1 := hp.2.2.1
          have z68_a : 0 ≤ z68 := hp.2.2.2.1
          have z68_b : z68 ≤ 940 := hp.2.2.2.2.1
          have z69_a : 0 ≤ z69 := hp.2.2.2.2.2.1
          have z69_b : z69 ≤ 940 := hp.2.2.2.2.2.2.1
          have z70_a : 0 ≤ z70 := hp.2.2.2.2.2.2.2.1
          have z70_b : z70 ≤ 5 := hp.2.2.2.2.2.2.2.2.1
          have fo71_h : wok T fo71 := hp.2.2.2.2.2.2.2.2.2.1
          have z74_a : (-2147483648) ≤ z74 := hp.2.2.2.2.2.2.2.2.2.2.1
          have z74_b : z74 ≤ 2147483647 := hp.2.2.2.2.2.2.2.2.2.2.2.1
          have z75_a : (-2147483648) ≤ z75 := hp.2.2.2.2.2.2.2.2.2.2.2.2.1
          have z75_b : z75 ≤ 2147483647 := hp.2.2.2.2.2.2.2.2.2.2.2.2.2.1
          have z76_a : 0 ≤ z76 := hp.2.2.2.2.2.2.2.2.2.2.2.2.2.2.1
          have z76_b : z76 ≤ 940 := hp.2.2.2.2.2.2.2.2.2.2.2.2.2.2.2.1
          have ff77_h : rng (-2147483648) 2147483647 ff77 := hp.2.2.2.2.2.2.2.2.2.2.2.2.2.2.2.2.1
          have pq78 : kp x0 f1 ff77 := hp.2.2.2.2.2.2.2.2.2.2.2.2.2.2.2.2.2.1
          have pq79 : kpB z67 x7 z75 := hp.2.2.2.2.2.2.2.2.2.2.2.2.2.2.2.2.2.2.1
          have pq80 : ∀ x : Tk × Int × Int, gC T x z45 z44 z43 fy47 fr48 z49 fo46 → RS (bkY f3 x1 x2 (x, x0)) z67 z75 z76 (fun y => gC T y z70 z69 z68 fy72 fr73 z74 fo71) x0 := hp.2.2.2.2.2.2.2.2.2.2.2.2.2.2.2.2.2.2.2
          have w : WD D A s.heap [(a2, .inr (9, [.ref a9, .ref a10, .ref a11, .ref a12, .ref a13, .ref a14, .ref a15, .ref a16, .ref a17, .int (iI x9), .int (iI x10), .int (iI x11), .int (iI x12), .int (iI x13), .int (iI x14), .int (iI x15), .int (iI x16), .int (iI x17)])), (a3, .inl (T 5, 40, .inr (.inr (.inr (.inr (va_up g0 (Int32.toNatClampNeg (iI x0)) (some qq1))))))), (a4, .inl (T 0, 40, .inl (cI (upz f0 x0 (-1))))), (a6, .inl (T 0, 40, .inl (cI f2))), (a9, .inl (T 1, 9, .inr (.inl h0))), (a10, .inl (T 0, 9, .inl (cI f4))), (a11, .inl (T 0, 9, .inl (cI f5))), (a12, .inl (T 0, 9, .inl (cI f6))), (a13, .inl (T 0, 9, .inl (cI f7))), (a14, .inl (T 0, 9, .inl (cI f8))), (a15, .inl (T 0, 9, .inl (cI f9))), (a16, .inl (T 1, 3, .inr (.inl h1))), (a17, .inl (T 0, 3, .inl (cI f10))), (a0, .inr (0, [.ref a3, .ref a4, .ref a5, .ref a6, .ref a7, .int (iI x0)])), (a1, .inr (8, [.ref a8, .int (iI x1), .int (iI x2), .int (iI z68), .int (iI z69), .int (iI z70), (va_rf fo71), .long fy72, .int fr73, .int (iI z74), .int (iI z75), .int (iI z76)])), (a5, .inl (T 0, 40, .inl (cI ff77))), (a8, .inl (T 0, 940, .inl (cI f3)))] H locs := w
          refine lv_goto (tgt := 128) hx hb dX0_readLine_119 (by decide) ?_
          exact ret _ (z67, z68, z69, z70, fo71, fy72, fr73, z74, z75, z76, (va_up g0 (Int32.toNatClampNeg (iI x0)) (some qq1)), (upz f0 x0 (-1)), ff77, f2) _ _ _ _ _ [13, 14, 0, 1, 2, 15, 3, 16, 4, 5, 6, 7, 8, 9, 10, 11, 12] dX0_readLine_128 (nb_n (by omega) (by omega)) ⟨rfl, z67_a, z67_b, z68_a, z68_b, z69_a, z69_b, z70_a, z70_b, fo71_h, z74_a, z74_b, z75_a, z75_b, z76_a, z76_b, (woks_up g0_h o0_h), (rng_up f0_h (by omega) (by omega)), ff77_h, f2_h, (show 0 ≤ ((79 - x0) - (z67 * 40)) from by omega), (show z67 = 1 → bkI T (va_up g0 (Int32.toNatClampNeg (iI x0)) (some qq1)) (upz f0 x0 (-1)) ff77 f2 (x0 + 1) from (fun h => bkI_s pp_b (by omega) (by omega) (kpo_up kpo_rfl (by omega) (by omega) (by omega)) (kp_up kp_rfl (by omega)) (kp_tr kp_rfl pq78) kp_rfl (by rw [va_up_self]; exact bk1_d M.2.2.2.2.2.2.2.2.2 c_51))), (show kpB z67 x7 z75 from pq79), (show ∀ x : Tk × Int × Int, gC T x x5 x4 x3 y0 r0 x6 (some qq1) → RS (bkL f3 x1 x2 (sNa h0 x9) (sNa h1 x10) (x, x0)) z67 z75 z76 (fun y => gC T y z70 z69 z68 fy72 fr73 z74 fo71) x0 from (fun x g => absurd (c_41.symm.trans c_51) (fun e => absurd (M.2.2.2.2.2.2.2.2.2 13 14 (by decide) (by decide) (Option.some.inj e)) (by decide))))⟩ w (by decide) rfl
      · replace c_42 : 40 ≤ x0 := Int.not_lt.mp (fun h => c_42 ((iI_lt (Int.le_trans (by decide) x0_a) (Int.le_trans x0_b (by decide)) (by decide) (by decide)).mpr h))
        refine lv_aload_n hx hb dX0_readLine_64 rfl (lv_at hl 4 rfl) ?_
        refine lv_iconst (v := iI 4) hx hb dX0_readLine_65 (by decide +kernel) ?_
        refine k_I (ce := 0) (sl := 0) (rest := []) (wr := [(a0, .inr (0, [.ref a3, .ref a4, .ref a5, .ref a6, .ref a7, .int (iI x0)])), (a2, .inr (9, [.ref a9, .ref a10, .ref a11, .ref a12, .ref a13, .ref a14, .ref a15, .ref a16, .ref a17, .int (iI x9), .int (iI x10), .int (iI x11), .int (iI x12), .int (iI x13), .int (iI x14), .int (iI x15), .int (iI x16), .int (iI x17)])), (a3, .inl (T 5, 40, .inr (.inr (.inr (.inr g0))))), (a4, .inl (T 0, 40, .inl (cI f0))), (a5, .inl (T 0, 40, .inl (cI f1))), (a6, .inl (T 0, 40, .inl (cI f2))), (a8, .inl (T 0, 940, .inl (cI f3))), (a9, .inl (T 1, 9, .inr (.inl h0))), (a10, .inl (T 0, 9, .inl (cI f4))), (a11, .inl (T 0, 9, .inl (cI f5))), (a12, .inl (T 0, 9, .inl (cI f6))), (a13, .inl (T 0, 9, .inl (cI f7))), (a14, .inl (T 0, 9, .inl (cI f8))), (a15, .inl (T 0, 9, .inl (cI f9))), (a16, .inl (T 1, 3, .inr (.inl h1))), (a17, .inl (T 0, 3, .inl (cI f10)))]) (r_V (f := 0) [1] M w V_HookedCity_Book_68 G710 G711 (c271_X8_fail l D T _ a1 4 a8 x1 x2 x3 x4 x5 (some qq1) y0 r0 x6 x7 x8 (by decide) (by decide) x1_a x1_b x2_a x2_b x3_a x3_b x4_a x4_b x5_a x5_b o0_h x6_a x6_b x7_a x7_b x8_a x8_b) 1 clX8 rfl rfl (by decide) rfl hl.1 rfl (Nat.le_of_ble_eq_true rfl) dX0_readLine_66 (by decide) (by decide) (by decide) (by decide)) w [1] [0, 2, 3, 4, 5, 6, 7, 8, 9, 10, 11, 12, 13, 14, 15, 16] rfl rfl (by decide) (by decide) rfl rfl (fun v u H locs hp w => ?_)
        obtain ⟨z81, z82, z83⟩ := u
        have hv : iI z81 = v := hp.1
        subst hv
        have z81_a : 0 ≤ z81 := hp.2.1
        have z81_b : z81 ≤ 1 := hp.2.2.1
        have z82_a : (-2147483648) ≤ z82 := hp.2.2.2.1
        have z82_b : z82 ≤ 2147483647 := hp.2.2.2.2.1
        have z83_a : 0 ≤ z83 := hp.2.2.2.2.2.1
        have z83_b : z83 ≤ 940 := hp.2.2.2.2.2.2.1
        have pq84 : z82 = 4 := hp.2.2.2.2.2.2.2.1
        have pq85 : z83 = x4 := hp.2.2.2.2.2.2.2.2.1
        have w : WD D A s.heap [(a0, .inr (0, [.ref a3, .ref a4, .ref a5, .ref a6, .ref a7, .int (iI x0)])), (a2, .inr (9, [.ref a9, .ref a10, .ref a11, .ref a12, .ref a13, .ref a14, .ref a15, .ref a16, .ref a17, .int (iI x9), .int (iI x10), .int (iI x11), .int (iI x12), .int (iI x13), .int (iI x14), .int (iI x15), .int (iI x16), .int (iI x17)])), (a3, .inl (T 5, 40, .inr (.inr (.inr (.inr g0))))), (a4, .inl (T 0, 40, .inl (cI f0))), (a5, .inl (T 0, 40, .inl (cI f1))), (a6, .inl (T 0, 40, .inl (cI f2))), (a8, .inl (T 0, 940, .inl (cI f3))), (a9, .inl (T 1, 9, .inr (.inl h0))), (a10, .inl (T 0, 9, .inl (cI f4))), (a11, .inl (T 0, 9, .inl (cI f5))), (a12, .inl (T 0, 9, .inl (cI f6))), (a13, .inl (T 0, 9, .inl (cI f7))), (a14, .inl (T 0, 9, .inl (cI f8))), (a15, .inl (T 0, 9, .inl (cI f9))), (a16, .inl (T 1, 3, .inr (.inl h1))), (a17, .inl (T 0, 3, .inl (cI f10))), (a1, .inr (8, [.ref a8, .int (iI x1), .int (iI x2), .int (iI x3), .int (iI x4), .int (iI x5), (va_rf (some qq1)), .long y0, .int r0, .int (iI x6), .int (iI z82), .int (iI z83)]))] H locs := w
        rcases hp.2.2.2.2.2.2.2.2.2 with hr
        · subst hr
          exact ret _ (0, x3, x4, x5, (some qq1), y0, r0, x6, z82, z83, g0, f0, f1, f2) _ _ _ _ _ [0, 16, 1, 2, 3, 4, 5, 6, 7, 8, 9, 10, 11, 12, 13, 14, 15] dX0_readLine_69 (by decide +kernel) ⟨rfl, (show (0 : Int) ≤ 0 from by decide), (show (0 : Int) ≤ 1 from by decide), x3_a, x3_b, x4_a, x4_b, x5_a, x5_b, o0_h, x6_a, x6_b, z82_a, z82_b, z83_a, z83_b, g0_h, f0_h, f1_h, f2_h, (show 0 ≤ ((79 - x0) - (0 * 40)) from by omega), (show 0 = 1 → bkI T g0 f0 f1 f2 (x0 + 1) from (fun h => absurd h (by decide))), (show kpB 0 x7 z82 from (fun e => absurd e (by decide))), (show ∀ x : Tk × Int × Int, gC T x x5 x4 x3 y0 r0 x6 (some qq1) → RS (bkL f3 x1 x2 (sNa h0 x9) (sNa h1 x10) (x, x0)) 0 z82 z83 (fun y => gC T y x5 x4 x3 y0 r0 x6 (some qq1)) x0 from (fun x g => bl_4 (Or.inl (cw_1 M.2.2.2.2.2.2.2.2.2 g (j := 13) (by decide) c_41)) (by omega) (by omega) (pq85.trans g.1)))⟩ w (by decide) rfl
    · refine lv_aload_n hx hb dX0_readLine_12 rfl (lv_at hl 0 rfl) ?_
      refine r_gets M w 14 rfl G1175 dX0_readLine_13 ?_
      refine lv_acmp_eq (rx := (some qq1)) (ry := (some (T (10 + 14)))) (tgt := 23) hx hb dX0_readLine_16 (by decide) (fun c_86 => ?_) (fun c_86 => ?_)
      · refine lv_iconst (v := iI 0) hx hb dX0_readLine_23 (by decide +kernel) ?_
        refine lv_istore (lv' := [(4, .int (iI 0)), (3, .ref qq1), (0, .ref a0), (1, .ref a1), (2, .ref a2)]) hx hb dX0_readLine_24 hl (by decide) rfl (fun ls hl => ?_)
        refine lv_iload hx hb dX0_readLine_26 (lv_at hl 0 rfl) ?_
        refine lv_if_eq (tgt := 39) hx hb dX0_readLine_28 (by decide) (fun _ => ?_) (fun c => absurd (by decide +kernel) c)
        refine lv_iconst (v := iI (-1)) hx hb dX0_readLine_39 (by decide +kernel) ?_
        refine lv_istore (lv' := [(5, .int (iI (-1))), (4, .int (iI 0)), (3, .ref qq1), (0, .ref a0), (1, .ref a1), (2, .ref a2)]) hx hb dX0_readLine_40 hl (by decide) rfl (fun ls hl => ?_)
        refine lv_iload hx hb dX0_readLine_42 (lv_at hl 1 rfl) ?_
        refine lv_if_eq (tgt := 55) hx hb dX0_readLine_44 (by decide) (fun _ => ?_) (fun c => absurd (by decide +kernel) c)
        refine lv_aload_n hx hb dX0_readLine_55 rfl (lv_at hl 3 rfl) ?_
        refine r_get (v := .int (iI x0)) M w 0 5 clX0 rfl (by decide) G269 rfl rfl dX0_readLine_56 ?_
        refine lv_bipush (v := iI 40) hx hb dX0_readLine_59 (by decide +kernel) ?_
        refine lv_icmp_lt (tgt := 70) hx hb dX0_readLine_61 (by decide) (fun c_87 => ?_) (fun c_87 => ?_)
        · replace c_87 := (iI_lt (Int.le_trans (by decide) x0_a) (Int.le_trans x0_b (by decide)) (by decide) (by decide)).mp c_87
          refine lv_aload_n hx hb dX0_readLine_70 rfl (lv_at hl 4 rfl) ?_
          refine k_V (ce := 0) (sl := 0) (rest := []) (wr := [(a0, .inr (0, [.ref a3, .ref a4, .ref a5, .ref a6, .ref a7, .int (iI x0)])), (a2, .inr (9, [.ref a9, .ref a10, .ref a11, .ref a12, .ref a13, .ref a14, .ref a15, .ref a16, .ref a17, .int (iI x9), .int (iI x10), .int (iI x11), .int (iI x12), .int (iI x13), .int (iI x14), .int (iI x15), .int (iI x16), .int (iI x17)])), (a3, .inl (T 5, 40, .inr (.inr (.inr (.inr g0))))), (a4, .inl (T 0, 40, .inl (cI f0))), (a5, .inl (T 0, 40, .inl (cI f1))), (a6, .inl (T 0, 40, .inl (cI f2))), (a9, .inl (T 1, 9, .inr (.inl h0))), (a10, .inl (T 0, 9, .inl (cI f4))), (a11, .inl (T 0, 9, .inl (cI f5))), (a12, .inl (T 0, 9, .inl (cI f6))), (a13, .inl (T 0, 9, .inl (cI f7))), (a14, .inl (T 0, 9, .inl (cI f8))), (a15, .inl (T 0, 9, .inl (cI f9))), (a16, .inl (T 1, 3, .inr (.inl h1))), (a17, .inl (T 0, 3, .inl (cI f10)))]) (r_V (f := 4) [1, 7] M w V_HookedCity_Book_72 G587 G588 (c266_X8_step l D T _ a1 a8 x1 x2 x3 x4 x5 (some qq1) y0 r0 x6 x7 x8 f3 x1_a x1_b x2_a x2_b x3_a x3_b x4_a x4_b x5_a x5_b o0_h x6_a x6_b x7_a x7_b x8_a x8_b f3_h) 1 clX8 rfl rfl (by decide) rfl hl.1 rfl (Nat.le_of_ble_eq_true rfl) dX0_readLine_71 (by decide) (by decide) (by decide) (by decide)) w [1, 7] [0, 2, 3, 4, 5, 6, 8, 9, 10, 11, 12, 13, 14, 15, 16] rfl rfl (by decide) (by decide) rfl rfl (fun u H locs hp w => ?_)
          obtain ⟨z88, z89, z90, fo91, fy92, fr93, z94⟩ := u
          have z88_a : 0 ≤ z88 := hp.1
          have z88_b : z88 ≤ 940 := hp.2.1
          have z89_a : 0 ≤ z89 := hp.2.2.1
          have z89_b : z89 ≤ 940 := hp.2.2.2.1
          have z90_a : 0 ≤ z90 := hp.2.2.2.2.1
          have z90_b : z90 ≤ 5 := hp.2.2.2.2.2.1
          have fo91_h : wok T fo91 := hp.2.2.2.2.2.2.1
          have z94_a : (-2147483648) ≤ z94 := hp.2.2.2.2.2.2.2.1
          have z94_b : z94 ≤ 2147483647 := hp.2.2.2.2.2.2.2.2.1
          have pq95 : gC T (tkAt f3 x1 x2 x3) z90 z89 z88 fy92 fr93 z94 fo91 := hp.2.2.2.2.2.2.2.2.2
          have w : WD D A s.heap [(a0, .inr (0, [.ref a3, .ref a4, .ref a5, .ref a6, .ref a7, .int (iI x0)])), (a2, .inr (9, [.ref a9, .ref a10, .ref a11, .ref a12, .ref a13, .ref a14, .ref a15, .ref a16, .ref a17, .int (iI x9), .int (iI x10), .int (iI x11), .int (iI x12), .int (iI x13), .int (iI x14), .int (iI x15), .int (iI x16), .int (iI x17)])), (a3, .inl (T 5, 40, .inr (.inr (.inr (.inr g0))))), (a4, .inl (T 0, 40, .inl (cI f0))), (a5, .inl (T 0, 40, .inl (cI f1))), (a6, .inl (T 0, 40, .inl (cI f2))), (a9, .inl (T 1, 9, .inr (.inl h0))), (a10, .inl (T 0, 9, .inl (cI f4))), (a11, .inl (T 0, 9, .inl (cI f5))), (a12, .inl (T 0, 9, .inl (cI f6))), (a13, .inl (T 0, 9, .inl (cI f7))), (a14, .inl (T 0, 9, .inl (cI f8))), (a15, .inl (T 0, 9, .inl (cI f9))), (a16, .inl (T 1, 3, .inr (.inl h1))), (a17, .inl (T 0, 3, .inl (cI f10))), (a1, .inr (8, [.ref a8, .int (iI x1), .int (iI x2), .int (iI z88), .int (iI z89), .int (iI z90), (va_rf fo91), .long fy92, .int fr93, .int (iI z94), .int (iI x7), .int (iI x8)])), (a8, .inl (T 0, 940, .inl (cI f3)))] H locs := w
          refine lv_aload_n hx hb dX0_readLine_74 rfl (lv_at hl 3 rfl) ?_
          refine r_get (v := .ref a4) M w 0 1 clX0 rfl (by decide) G264 rfl rfl dX0_readLine_75 ?_
          refine lv_aload_n hx hb dX0_readLine_78 rfl (lv_at hl 3 rfl) ?_
          refine r_get (v := .int (iI x0)) M w 0 5 clX0 rfl (by decide) G269 rfl rfl dX0_readLine_79 ?_
          refine lv_iload hx hb dX0_readLine_82 (lv_at hl 0 rfl) ?_
          refine r_iast (ws' := [(a0, .inr (0, [.ref a3, .ref a4, .ref a5, .ref a6, .ref a7, .int (iI x0)])), (a2, .inr (9, [.ref a9, .ref a10, .ref a11, .ref a12, .ref a13, .ref a14, .ref a15, .ref a16, .ref a17, .int (iI x9), .int (iI x10), .int (iI x11), .int (iI x12), .int (iI x13), .int (iI x14), .int (iI x15), .int (iI x16), .int (iI x17)])), (a3, .inl (T 5, 40, .inr (.inr (.inr (.inr g0))))), (a4, .inl (T 0, 40, .inl (cI (upz f0 x0 (-1))))), (a5, .inl (T 0, 40, .inl (cI f1))), (a6, .inl (T 0, 40, .inl (cI f2))), (a9, .inl (T 1, 9, .inr (.inl h0))), (a10, .inl (T 0, 9, .inl (cI f4))), (a11, .inl (T 0, 9, .inl (cI f5))), (a12, .inl (T 0, 9, .inl (cI f6))), (a13, .inl (T 0, 9, .inl (cI f7))), (a14, .inl (T 0, 9, .inl (cI f8))), (a15, .inl (T 0, 9, .inl (cI f9))), (a16, .inl (T 1, 3, .inr (.inl h1))), (a17, .inl (T 0, 3, .inl (cI f10))), (a1, .inr (8, [.ref a8, .int (iI x1), .int (iI x2), .int (iI z88), .int (iI z89), .int (iI z90), (va_rf fo91), .long fy92, .int fr93, .int (iI z94), .int (iI x7), .int (iI x8)])), (a8, .inl (T 0, 940, .inl (cI f3)))]) M w 3 rfl (iI_in (by omega) (by omega) (by decide)) (by rw [cI_up (by omega) (by omega)]; rfl) dX0_readLine_84 (fun H locs w => ?_)
          refine lv_aload_n hx hb dX0_readLine_85 rfl (lv_at hl 3 rfl) ?_
          refine r_get (v := .ref a3) M w 0 0 clX0 rfl (by decide) G263 rfl rfl dX0_readLine_86 ?_
          refine lv_aload_n hx hb dX0_readLine_89 rfl (lv_at hl 3 rfl) ?_
          refine r_get (v := .int (iI x0)) M w 0 5 clX0 rfl (by decide) G269 rfl rfl dX0_readLine_90 ?_
          refine lv_aload_n hx hb dX0_readLine_93 rfl (lv_at hl 2 rfl) ?_
          refine r_wast (ws' := [(a0, .inr (0, [.ref a3, .ref a4, .ref a5, .ref a6, .ref a7, .int (iI x0)])), (a2, .inr (9, [.ref a9, .ref a10, .ref a11, .ref a12, .ref a13, .ref a14, .ref a15, .ref a16, .ref a17, .int (iI x9), .int (iI x10), .int (iI x11), .int (iI x12), .int (iI x13), .int (iI x14), .int (iI x15), .int (iI x16), .int (iI x17)])), (a3, .inl (T 5, 40, .inr (.inr (.inr (.inr (va_up g0 (Int32.toNatClampNeg (iI x0)) (some qq1))))))), (a4, .inl (T 0, 40, .inl (cI (upz f0 x0 (-1))))), (a5, .inl (T 0, 40, .inl (cI f1))), (a6, .inl (T 0, 40, .inl (cI f2))), (a9, .inl (T 1, 9, .inr (.inl h0))), (a10, .inl (T 0, 9, .inl (cI f4))), (a11, .inl (T 0, 9, .inl (cI f5))), (a12, .inl (T 0, 9, .inl (cI f6))), (a13, .inl (T 0, 9, .inl (cI f7))), (a14, .inl (T 0, 9, .inl (cI f8))), (a15, .inl (T 0, 9, .inl (cI f9))), (a16, .inl (T 1, 3, .inr (.inl h1))), (a17, .inl (T 0, 3, .inl (cI f10))), (a1, .inr (8, [.ref a8, .int (iI x1), .int (iI x2), .int (iI z88), .int (iI z89), .int (iI z90), (va_rf fo91), .long fy92, .int fr93, .int (iI z94), .int (iI x7), .int (iI x8)])), (a8, .inl (T 0, 940, .inl (cI f3)))]) M w 2 rfl o0_h (iI_in (by omega) (by omega) (by decide)) rfl dX0_readLine_94 (fun H locs w => ?_)
          refine lv_iload hx hb dX0_readLine_95 (lv_at hl 1 rfl) ?_
          refine lv_if_eq (tgt := 107) hx hb dX0_readLine_97 (by decide) (fun _ => ?_) (fun c => absurd (by decide +kernel) c)
          refine lv_aload_n hx hb dX0_readLine_107 rfl (lv_at hl 2 rfl) ?_
          refine r_gets M w 14 rfl G1175 dX0_readLine_108 ?_
          refine lv_acmp_ne (rx := (some qq1)) (ry := (some (T (10 + 14)))) (tgt := 122) hx hb dX0_readLine_111 (by decide) (fun c_96 => ?_) (fun c_96 => ?_)
          · refine lv_aload_n hx hb dX0_readLine_122 rfl (lv_at hl 3 rfl) ?_
            refine lv_aload_n hx hb dX0_readLine_123 rfl (lv_at hl 4 rfl) ?_
            refine lv_aload_n hx hb dX0_readLine_124 rfl (lv_at hl 5 rfl) ?_
            refine k_I (ce := 0) (sl := 0) (rest := []) (wr := [(a3, .inl (T 5, 40, .inr (.inr (.inr (.inr (va_up g0 (Int32.toNatClampNeg (iI x0)) (some qq1))))))), (a4, .inl (T 0, 40, .inl (cI (upz f0 x0 (-1))))), (a6, .inl (T 0, 40, .inl (cI f2)))]) (r_V (f := 5) [0, 15, 1, 4, 16, 6, 7, 8, 9, 10, 11, 12, 13, 14] M w V_HookedCity_Book_82 G1193 G32 (c403_X0_readFirst l D T _ a0 a1 a2 a3 a4 a5 a6 a7 x0 a8 x1 x2 z88 z89 z90 fo91 fy92 fr93 z94 x7 x8 a9 a10 a11 a12 a13 a14 a15 a16 a17 x9 x10 x11 x12 x13 x14 x15 x16 x17 f1 f3 h0 f4 f5 f6 f7 f8 f9 h1 f10 (by omega) (by omega) x1_a x1_b x2_a x2_b z88_a z88_b z89_a z89_b z90_a z90_b fo91_h z94_a z94_b x7_a x7_b x8_a x8_b x9_a x9_b x10_a x10_b x11_a x11_b x12_a x12_b x13_a x13_b x14_a x14_b x15_a x15_b x16_a x16_b x17_a x17_b f1_h f3_h f4_h f5_h f6_h f7_h f8_h f9_h f10_h) 0 clX0 rfl rfl (by decide) rfl hl.1 rfl (Nat.le_of_ble_eq_true rfl) dX0_readLine_125 (by decide) (by decide) (by decide) (by decide)) w [0, 15, 1, 4, 16, 6, 7, 8, 9, 10, 11, 12, 13, 14] [2, 3, 5] rfl rfl (by decide) (by decide) rfl rfl (fun v u H locs hp w => ?_)
            obtain ⟨z97, z98, z99, z100, fo101, fy102, fr103, z104, z105, z106, ff107⟩ := u
            have hv : iI z97 = v := hp.1
            subst hv
            have z97_a : 0 ≤ z97 := hp.2.1
            have z97_b : z97 ≤ 1 := hp.2.2.1
            have z98_a : 0 ≤ z98 := hp.2.2.2.1
            have z98_b : z98 ≤ 940 := hp.2.2.2.2.1
            have z99_a : 0 ≤ z99 := hp.2.2.2.2.2.1
            have z99_b : z99 ≤ 940 := hp.2.2.2.2.2.2.1
            have z100_a : 0 ≤ z100 := hp.2.2.2.2.2.2.2.1
            have z100_b : z100 ≤ 5 := hp.2.2.2.2.2.2.2.2.1
            have fo101_h : wok T fo101 := hp.2.2.2.2.2.2.2.2.2.1
            have z104_a : (-2147483648) ≤ z104 := hp.2.2.2.2.2.2.2.2.2.2.1
            have z104_b : z104 ≤ 2147483647 := hp.2.2.2.2.2.2.2.2.2.2.2.1
            have z105_a : (-2147483648) ≤ z105 := hp.2.2.2.2.2.2.2.2.2.2.2.2.1
            have z105_b : z105 ≤ 2147483647 := hp.2.2.2.2.2.2.2.2.2.2.2.2.2.1
            have z106_a : 0 ≤ z106 := hp.2.2.2.2.2.2.2.2.2.2.2.2.2.2.1
            have z106_b : z106 ≤ 940 := hp.2.2.2.2.2.2.2.2.2.2.2.2.2.2.2.1
            have ff107_h : rng (-2147483648) 2147483647 ff107 := hp.2.2.2.2.2.2.2.2.2.2.2.2.2.2.2.2.1
            have pq108 : kp x0 f1 ff107 := hp.2.2.2.2.2.2.2.2.2.2.2.2.2.2.2.2.2.1
            have pq109 : z97 = 1 → 0 ≤ ff107 x0 ∧ ff107 x0 ≤ 8 := hp.2.2.2.2.2.2.2.2.2.2.2.2.2.2.2.2.2.2.1
            have pq110 : kpB z97 x7 z105 := hp.2.2.2.2.2.2.2.2.2.2.2.2.2.2.2.2.2.2.2.1
            have pq111 : ∀ x : Tk × Int × Int, gC T x z90 z89 z88 fy92 fr93 z94 fo91 → RS (bkP f3 x1 x2 (sNa h0 x9) (x, x0)) z97 z105 z106 (fun y => gC T y z100 z99 z98 fy102 fr103 z104 fo101) x0 := hp.2.2.2.2.2.2.2.2.2.2.2.2.2.2.2.2.2.2.2.2
            have w : WD D A s.heap [(a3, .inl (T 5, 40, .inr (.inr (.inr (.inr (va_up g0 (Int32.toNatClampNeg (iI x0)) (some qq1))))))), (a4, .inl (T 0, 40, .inl (cI (upz f0 x0 (-1))))), (a6, .inl (T 0, 40, .inl (cI f2))), (a0, .inr (0, [.ref a3, .ref a4, .ref a5, .ref a6, .ref a7, .int (iI x0)])), (a1, .inr (8, [.ref a8, .int (iI x1), .int (iI x2), .int (iI z98), .int (iI z99), .int (iI z100), (va_rf fo101), .long fy102, .int fr103, .int (iI z104), .int (iI z105), .int (iI z106)])), (a2, .inr (9, [.ref a9, .ref a10, .ref a11, .ref a12, .ref a13, .ref a14, .ref a15, .ref a16, .ref a17, .int (iI x9), .int (iI x10), .int (iI x11), .int (iI x12), .int (iI x13), .int (iI x14), .int (iI x15), .int (iI x16), .int (iI x17)])), (a5, .inl (T 0, 40, .inl (cI ff107))), (a8, .inl (T 0, 940, .inl (cI f3))), (a9, .inl (T 1, 9, .inr (.inl h0))), (a10, .inl (T 0, 9, .inl (cI f4))), (a11, .inl (T 0, 9, .inl (cI f5))), (a12, .inl (T 0, 9, .inl (cI f6))), (a13, .inl (T 0, 9, .inl (cI f7))), (a14, .inl (T 0, 9, .inl (cI f8))), (a15, .inl (T 0, 9, .inl (cI f9))), (a16, .inl (T 1, 3, .inr (.inl h1))), (a17, .inl (T 0, 3, .inl (cI f10)))] H locs := w
            exact ret _ (z97, z98, z99, z100, fo101, fy102, fr103, z104, z105, z106, (va_up g0 (Int32.toNatClampNeg (iI x0)) (some qq1)), (upz f0 x0 (-1)), ff107, f2) _ _ _ _ _ [3, 4, 5, 0, 1, 6, 2, 7, 8, 9, 10, 11, 12, 13, 14, 15, 16] dX0_readLine_128 (nb_n (by omega) (by omega)) ⟨rfl, z97_a, z97_b, z98_a, z98_b, z99_a, z99_b, z100_a, z100_b, fo101_h, z104_a, z104_b, z105_a, z105_b, z106_a, z106_b, (woks_up g0_h o0_h), (rng_up f0_h (by omega) (by omega)), ff107_h, f2_h, (show 0 ≤ ((79 - x0) - (z97 * 40)) from by omega), (show z97 = 1 → bkI T (va_up g0 (Int32.toNatClampNeg (iI x0)) (some qq1)) (upz f0 x0 (-1)) ff107 f2 (x0 + 1) from (fun h => bkI_s pp_b (by omega) (by omega) (kpo_up kpo_rfl (by omega) (by omega) (by omega)) (kp_up kp_rfl (by omega)) (kp_tr kp_rfl pq108) kp_rfl (by rw [va_up_self]; exact bk1_d M.2.2.2.2.2.2.2.2.2 c_86))), (show kpB z97 x7 z105 from pq110), (show ∀ x : Tk × Int × Int, gC T x x5 x4 x3 y0 r0 x6 (some qq1) → RS (bkL f3 x1 x2 (sNa h0 x9) (sNa h1 x10) (x, x0)) z97 z105 z106 (fun y => gC T y z100 z99 z98 fy102 fr103 z104 fo101) x0 from (fun x g => absurd c_86 c_96))⟩ w (by decide) rfl
          · refine lv_aload_n hx hb dX0_readLine_114 rfl (lv_at hl 3 rfl) ?_
            refine lv_aload_n hx hb dX0_readLine_115 rfl (lv_at hl 4 rfl) ?_
            refine k_I (ce := 0) (sl := 0) (rest := []) (wr := [(a2, .inr (9, [.ref a9, .ref a10, .ref a11, .ref a12, .ref a13, .ref a14, .ref a15, .ref a16, .ref a17, .int (iI x9), .int (iI x10), .int (iI x11), .int (iI x12), .int (iI x13), .int (iI x14), .int (iI x15), .int (iI x16), .int (iI x17)])), (a3, .inl (T 5, 40, .inr (.inr (.inr (.inr (va_up g0 (Int32.toNatClampNeg (iI x0)) (some qq1))))))), (a4, .inl (T 0, 40, .inl (cI (upz f0 x0 (-1))))), (a6, .inl (T 0, 40, .inl (cI f2))), (a9, .inl (T 1, 9, .inr (.inl h0))), (a10, .inl (T 0, 9, .inl (cI f4))), (a11, .inl (T 0, 9, .inl (cI f5))), (a12, .inl (T 0, 9, .inl (cI f6))), (a13, .inl (T 0, 9, .inl (cI f7))), (a14, .inl (T 0, 9, .inl (cI f8))), (a15, .inl (T 0, 9, .inl (cI f9))), (a16, .inl (T 1, 3, .inr (.inl h1))), (a17, .inl (T 0, 3, .inl (cI f10)))]) (r_V (f := 5) [0, 15, 4, 16] M w V_HookedCity_Book_78 G1198 G33 (c405_X0_readDays l D T _ a0 a1 a3 a4 a5 a6 a7 x0 a8 x1 x2 z88 z89 z90 fo91 fy92 fr93 z94 x7 x8 f1 f3 (by omega) (by omega) x1_a x1_b x2_a x2_b z88_a z88_b z89_a z89_b z90_a z90_b fo91_h z94_a z94_b x7_a x7_b x8_a x8_b f1_h f3_h) 0 clX0 rfl rfl (by decide) rfl hl.1 rfl (Nat.le_of_ble_eq_true rfl) dX0_readLine_116 (by decide) (by decide) (by decide) (by decide)) w [0, 15, 4, 16] [1, 2, 3, 5, 6, 7, 8, 9, 10, 11, 12, 13, 14] rfl rfl (by decide) (by decide) rfl rfl (fun v u H locs hp w => ?_)
            obtain ⟨z112, z113, z114, z115, fo116, fy117, fr118, z119, z120, z121, ff122⟩ := u
            have hv : iI z112 = v := hp.1
            subst hv
            have z112_a : 0 ≤ z112 := hp.2.1
            have z112_b : z112 ≤ 1 := hp.2.2.1
            have z113_a : 0 ≤ z113 := hp.2.2.2.1
            have z113_b : z113 ≤ 940 := hp.2.2.2.2.1
            have z114_a : 0 ≤ z114 := hp.2.2.2.2.2.1
            have z114_b : z114 ≤ 940 := hp.2.2.2.2.2.2.1
            have z115_a : 0 ≤ z115 := hp.2.2.2.2.2.2.2.1
            have z115_b : z115 ≤ 5 := hp.2.2.2.2.2.2.2.2.1
            have fo116_h : wok T fo116 := hp.2.2.2.2.2.2.2.2.2.1
            have z119_a : (-2147483648) ≤ z119 := hp.2.2.2.2.2.2.2.2.2.2.1
            have z119_b : z119 ≤ 2147483647 := hp.2.2.2.2.2.2.2.2.2.2.2.1
            have z120_a : (-2147483648) ≤ z120 := hp.2.2.2.2.2.2.2.2.2.2.2.2.1
            have z120_b : z120 ≤ 2147483647 := hp.2.2.2.2.2.2.2.2.2.2.2.2.2.1
            have z121_a : 0 ≤ z121 := hp.2.2.2.2.2.2.2.2.2.2.2.2.2.2.1
            have z121_b : z121 ≤ 940 := hp.2.2.2.2.2.2.2.2.2.2.2.2.2.2.2.1
            have ff122_h : rng (-2147483648) 2147483647 ff122 := hp.2.2.2.2.2.2.2.2.2.2.2.2.2.2.2.2.1
            have pq123 : kp x0 f1 ff122 := hp.2.2.2.2.2.2.2.2.2.2.2.2.2.2.2.2.2.1
            have pq124 : kpB z112 x7 z120 := hp.2.2.2.2.2.2.2.2.2.2.2.2.2.2.2.2.2.2.1
            have pq125 : ∀ x : Tk × Int × Int, gC T x z90 z89 z88 fy92 fr93 z94 fo91 → RS (bkY f3 x1 x2 (x, x0)) z112 z120 z121 (fun y => gC T y z115 z114 z113 fy117 fr118 z119 fo116) x0 := hp.2.2.2.2.2.2.2.2.2.2.2.2.2.2.2.2.2.2.2
            have w : WD D A s.heap [(a2, .inr (9, [.ref a9, .ref a10, .ref a11, .ref a12, .ref a13, .ref a14, .ref a15, .ref a16, .ref a17, .int (iI x9), .int (iI x10), .int (iI x11), .int (iI x12), .int (iI x13), .int (iI x14), .int (iI x15), .int (iI x16), .int (iI x17)])), (a3, .inl (T 5, 40, .inr (.inr (.inr (.inr (va_up g0 (Int32.toNatClampNeg (iI x0)) (some qq1))))))), (a4, .inl (T 0, 40, .inl (cI (upz f0 x0 (-1))))), (a6, .inl (T 0, 40, .inl (cI f2))), (a9, .inl (T 1, 9, .inr (.inl h0))), (a10, .inl (T 0, 9, .inl (cI f4))), (a11, .inl (T 0, 9, .inl (cI f5))), (a12, .inl (T 0, 9, .inl (cI f6))), (a13, .inl (T 0, 9, .inl (cI f7))), (a14, .inl (T 0, 9, .inl (cI f8))), (a15, .inl (T 0, 9, .inl (cI f9))), (a16, .inl (T 1, 3, .inr (.inl h1))), (a17, .inl (T 0, 3, .inl (cI f10))), (a0, .inr (0, [.ref a3, .ref a4, .ref a5, .ref a6, .ref a7, .int (iI x0)])), (a1, .inr (8, [.ref a8, .int (iI x1), .int (iI x2), .int (iI z113), .int (iI z114), .int (iI z115), (va_rf fo116), .long fy117, .int fr118, .int (iI z119), .int (iI z120), .int (iI z121)])), (a5, .inl (T 0, 40, .inl (cI ff122))), (a8, .inl (T 0, 940, .inl (cI f3)))] H locs := w
            refine lv_goto (tgt := 128) hx hb dX0_readLine_119 (by decide) ?_
            exact ret _ (z112, z113, z114, z115, fo116, fy117, fr118, z119, z120, z121, (va_up g0 (Int32.toNatClampNeg (iI x0)) (some qq1)), (upz f0 x0 (-1)), ff122, f2) _ _ _ _ _ [13, 14, 0, 1, 2, 15, 3, 16, 4, 5, 6, 7, 8, 9, 10, 11, 12] dX0_readLine_128 (nb_n (by omega) (by omega)) ⟨rfl, z112_a, z112_b, z113_a, z113_b, z114_a, z114_b, z115_a, z115_b, fo116_h, z119_a, z119_b, z120_a, z120_b, z121_a, z121_b, (woks_up g0_h o0_h), (rng_up f0_h (by omega) (by omega)), ff122_h, f2_h, (show 0 ≤ ((79 - x0) - (z112 * 40)) from by omega), (show z112 = 1 → bkI T (va_up g0 (Int32.toNatClampNeg (iI x0)) (some qq1)) (upz f0 x0 (-1)) ff122 f2 (x0 + 1) from (fun h => bkI_s pp_b (by omega) (by omega) (kpo_up kpo_rfl (by omega) (by omega) (by omega)) (kp_up kp_rfl (by omega)) (kp_tr kp_rfl pq123) kp_rfl (by rw [va_up_self]; exact bk1_d M.2.2.2.2.2.2.2.2.2 c_96))), (show kpB z112 x7 z120 from pq124), (show ∀ x : Tk × Int × Int, gC T x x5 x4 x3 y0 r0 x6 (some qq1) → RS (bkL f3 x1 x2 (sNa h0 x9) (sNa h1 x10) (x, x0)) z112 z120 z121 (fun y => gC T y z115 z114 z113 fy117 fr118 z119 fo116) x0 from (fun x g => bl_d (cw_0 g (j := 13) (by decide) c_41) (cw_1 M.2.2.2.2.2.2.2.2.2 g (j := 14) (by decide) c_96) (by omega) (pq125 _ (gC_nx g pq95))))⟩ w (by decide) rfl
        · replace c_87 : 40 ≤ x0 := Int.not_lt.mp (fun h => c_87 ((iI_lt (Int.le_trans (by decide) x0_a) (Int.le_trans x0_b (by decide)) (by decide) (by decide)).mpr h))
          refine lv_aload_n hx hb dX0_readLine_64 rfl (lv_at hl 4 rfl) ?_
          refine lv_iconst (v := iI 4) hx hb dX0_readLine_65 (by decide +kernel) ?_
          refine k_I (ce := 0) (sl := 0) (rest := []) (wr := [(a0, .inr (0, [.ref a3, .ref a4, .ref a5, .ref a6, .ref a7, .int (iI x0)])), (a2, .inr (9, [.ref a9, .ref a10, .ref a11, .ref a12, .ref a13, .ref a14, .ref a15, .ref a16, .ref a17, .int (iI x9), .int (iI x10), .int (iI x11), .int (iI x12), .int (iI x13), .int (iI x14), .int (iI x15), .int (iI x16), .int (iI x17)])), (a3, .inl (T 5, 40, .inr (.inr (.inr (.inr g0))))), (a4, .inl (T 0, 40, .inl (cI f0))), (a5, .inl (T 0, 40, .inl (cI f1))), (a6, .inl (T 0, 40, .inl (cI f2))), (a8, .inl (T 0, 940, .inl (cI f3))), (a9, .inl (T 1, 9, .inr (.inl h0))), (a10, .inl (T 0, 9, .inl (cI f4))), (a11, .inl (T 0, 9, .inl (cI f5))), (a12, .inl (T 0, 9, .inl (cI f6))), (a13, .inl (T 0, 9, .inl (cI f7))), (a14, .inl (T 0, 9, .inl (cI f8))), (a15, .inl (T 0, 9, .inl (cI f9))), (a16, .inl (T 1, 3, .inr (.inl h1))), (a17, .inl (T 0, 3, .inl (cI f10)))]) (r_V (f := 0) [1] M w V_HookedCity_Book_68 G710 G711 (c271_X8_fail l D T _ a1 4 a8 x1 x2 x3 x4 x5 (some qq1) y0 r0 x6 x7 x8 (by decide) (by decide) x1_a x1_b x2_a x2_b x3_a x3_b x4_a x4_b x5_a x5_b o0_h x6_a x6_b x7_a x7_b x8_a x8_b) 1 clX8 rfl rfl (by decide) rfl hl.1 rfl (Nat.le_of_ble_eq_true rfl) dX0_readLine_66 (by decide) (by decide) (by decide) (by decide)) w [1] [0, 2, 3, 4, 5, 6, 7, 8, 9, 10, 11, 12, 13, 14, 15, 16] rfl rfl (by decide) (by decide) rfl rfl (fun v u H locs hp w => ?_)
          obtain ⟨z126, z127, z128⟩ := u
          have hv : iI z126 = v := hp.1
          subst hv
          have z126_a : 0 ≤ z126 := hp.2.1
          have z126_b : z126 ≤ 1 := hp.2.2.1
          have z127_a : (-2147483648) ≤ z127 := hp.2.2.2.1
          have z127_b : z127 ≤ 2147483647 := hp.2.2.2.2.1
          have z128_a : 0 ≤ z128 := hp.2.2.2.2.2.1
          have z128_b : z128 ≤ 940 := hp.2.2.2.2.2.2.1
          have pq129 : z127 = 4 := hp.2.2.2.2.2.2.2.1
          have pq130 : z128 = x4 := hp.2.2.2.2.2.2.2.2.1
          have w : WD D A s.heap [(a0, .inr (0, [.ref a3, .ref a4, .ref a5, .ref a6, .ref a7, .int (iI x0)])), (a2, .inr (9, [.ref a9, .ref a10, .ref a11, .ref a12, .ref a13, .ref a14, .ref a15, .ref a16, .ref a17, .int (iI x9), .int (iI x10), .int (iI x11), .int (iI x12), .int (iI x13), .int (iI x14), .int (iI x15), .int (iI x16), .int (iI x17)])), (a3, .inl (T 5, 40, .inr (.inr (.inr (.inr g0))))), (a4, .inl (T 0, 40, .inl (cI f0))), (a5, .inl (T 0, 40, .inl (cI f1))), (a6, .inl (T 0, 40, .inl (cI f2))), (a8, .inl (T 0, 940, .inl (cI f3))), (a9, .inl (T 1, 9, .inr (.inl h0))), (a10, .inl (T 0, 9, .inl (cI f4))), (a11, .inl (T 0, 9, .inl (cI f5))), (a12, .inl (T 0, 9, .inl (cI f6))), (a13, .inl (T 0, 9, .inl (cI f7))), (a14, .inl (T 0, 9, .inl (cI f8))), (a15, .inl (T 0, 9, .inl (cI f9))), (a16, .inl (T 1, 3, .inr (.inl h1))), (a17, .inl (T 0, 3, .inl (cI f10))), (a1, .inr (8, [.ref a8, .int (iI x1), .int (iI x2), .int (iI x3), .int (iI x4), .int (iI x5), (va_rf (some qq1)), .long y0, .int r0, .int (iI x6), .int (iI z127), .int (iI z128)]))] H locs := w
          rcases hp.2.2.2.2.2.2.2.2.2 with hr
          · subst hr
            exact ret _ (0, x3, x4, x5, (some qq1), y0, r0, x6, z127, z128, g0, f0, f1, f2) _ _ _ _ _ [0, 16, 1, 2, 3, 4, 5, 6, 7, 8, 9, 10, 11, 12, 13, 14, 15] dX0_readLine_69 (by decide +kernel) ⟨rfl, (show (0 : Int) ≤ 0 from by decide), (show (0 : Int) ≤ 1 from by decide), x3_a, x3_b, x4_a, x4_b, x5_a, x5_b, o0_h, x6_a, x6_b, z127_a, z127_b, z128_a, z128_b, g0_h, f0_h, f1_h, f2_h, (show 0 ≤ ((79 - x0) - (0 * 40)) from by omega), (show 0 = 1 → bkI T g0 f0 f1 f2 (x0 + 1) from (fun h => absurd h (by decide))), (show kpB 0 x7 z127 from (fun e => absurd e (by decide))), (show ∀ x : Tk × Int × Int, gC T x x5 x4 x3 y0 r0 x6 (some qq1) → RS (bkL f3 x1 x2 (sNa h0 x9) (sNa h1 x10) (x, x0)) 0 z127 z128 (fun y => gC T y x5 x4 x3 y0 r0 x6 (some qq1)) x0 from (fun x g => bl_4 (Or.inr (cw_1 M.2.2.2.2.2.2.2.2.2 g (j := 14) (by decide) c_86)) (by omega) (by omega) (pq130.trans g.1)))⟩ w (by decide) rfl
      · refine lv_iconst (v := iI 1) hx hb dX0_readLine_19 (by decide +kernel) ?_
        refine lv_goto (tgt := 24) hx hb dX0_readLine_20 (by decide) ?_
        refine lv_istore (lv' := [(4, .int (iI 1)), (3, .ref qq1), (0, .ref a0), (1, .ref a1), (2, .ref a2)]) hx hb dX0_readLine_24 hl (by decide) rfl (fun ls hl => ?_)
        refine lv_iload hx hb dX0_readLine_26 (lv_at hl 0 rfl) ?_
        refine lv_if_eq (tgt := 39) hx hb dX0_readLine_28 (by decide) (fun c => absurd c (by decide +kernel)) (fun _ => ?_)
        refine lv_aload_n hx hb dX0_readLine_31 rfl (lv_at hl 4 rfl) ?_
        refine lv_aload_n hx hb dX0_readLine_32 rfl (lv_at hl 3 rfl) ?_
        refine k_I (ce := 0) (sl := 0) (rest := []) (wr := [(a0, .inr (0, [.ref a3, .ref a4, .ref a5, .ref a6, .ref a7, .int (iI x0)])), (a3, .inl (T 5, 40, .inr (.inr (.inr (.inr g0))))), (a4, .inl (T 0, 40, .inl (cI f0))), (a5, .inl (T 0, 40, .inl (cI f1))), (a6, .inl (T 0, 40, .inl (cI f2))), (a9, .inl (T 1, 9, .inr (.inl h0))), (a10, .inl (T 0, 9, .inl (cI f4))), (a11, .inl (T 0, 9, .inl (cI f5))), (a12, .inl (T 0, 9, .inl (cI f6))), (a13, .inl (T 0, 9, .inl (cI f7))), (a14, .inl (T 0, 9, .inl (cI f8))), (a15, .inl (T 0, 9, .inl (cI f9))), (a17, .inl (T 0, 3, .inl (cI f10)))]) (r_V (f := 2) [2, 1, 15, 7] M w V_HookedCity_Book_62 G1178 G1179 (c295_X9_maidAt l D T _ a2 a1 a9 a10 a11 a12 a13 a14 a15 a16 a17 x9 x10 x11 x12 x13 x14 x15 x16 x17 a8 x1 x2 x3 x4 x5 (some qq1) y0 r0 x6 x7 x8 h1 f3 x9_a x9_b x10_a x10_b x11_a x11_b x12_a x12_b x13_a x13_b x14_a x14_b x15_a x15_b x16_a x16_b x17_a x17_b x1_a x1_b x2_a x2_b x3_a x3_b x4_a x4_b x5_a x5_b o0_h x6_a x6_b x7_a x7_b x8_a x8_b f3_h) 2 clX9 rfl rfl (by decide) rfl hl.1 rfl (Nat.le_of_ble_eq_true rfl) dX0_readLine_33 (by decide) (by decide) (by decide) (by decide)) w [2, 1, 15, 7] [0, 3, 4, 5, 6, 8, 9, 10, 11, 12, 13, 14, 16] rfl rfl (by decide) (by decide) rfl rfl (fun v u H locs hp w => ?_)
        obtain ⟨z131, z132, z133⟩ := u
        have hv : iI z131 = v := hp.1
        subst hv
        have z131_a : (-1) ≤ z131 := hp.2.1
        have z131_b : z131 ≤ 2 := hp.2.2.1
        have z132_a : (-2147483648) ≤ z132 := hp.2.2.2.1
        have z132_b : z132 ≤ 2147483647 := hp.2.2.2.2.1
        have z133_a : 0 ≤ z133 := hp.2.2.2.2.2.1
        have z133_b : z133 ≤ 940 := hp.2.2.2.2.2.2.1
        have pq134 : kpF z131 x7 z132 := hp.2.2.2.2.2.2.2.1
        have pq135 : ∀ x : Tk × Int × Int, gC T x x5 x4 x3 y0 r0 x6 (some qq1) → XV ((sNa h1 x10) x) z131 z132 z133 := hp.2.2.2.2.2.2.2.2
        have w : WD D A s.heap [(a0, .inr (0, [.ref a3, .ref a4, .ref a5, .ref a6, .ref a7, .int (iI x0)])), (a3, .inl (T 5, 40, .inr (.inr (.inr (.inr g0))))), (a4, .inl (T 0, 40, .inl (cI f0))), (a5, .inl (T 0, 40, .inl (cI f1))), (a6, .inl (T 0, 40, .inl (cI f2))), (a9, .inl (T 1, 9, .inr (.inl h0))), (a10, .inl (T 0, 9, .inl (cI f4))), (a11, .inl (T 0, 9, .inl (cI f5))), (a12, .inl (T 0, 9, .inl (cI f6))), (a13, .inl (T 0, 9, .inl (cI f7))), (a14, .inl (T 0, 9, .inl (cI f8))), (a15, .inl (T 0, 9, .inl (cI f9))), (a17, .inl (T 0, 3, .inl (cI f10))), (a2, .inr (9, [.ref a9, .ref a10, .ref a11, .ref a12, .ref a13, .ref a14, .ref a15, .ref a16, .ref a17, .int (iI x9), .int (iI x10), .int (iI x11), .int (iI x12), .int (iI x13), .int (iI x14), .int (iI x15), .int (iI x16), .int (iI x17)])), (a1, .inr (8, [.ref a8, .int (iI x1), .int (iI x2), .int (iI x3), .int (iI x4), .int (iI x5), (va_rf (some qq1)), .long y0, .int r0, .int (iI x6), .int (iI z132), .int (iI z133)])), (a16, .inl (T 1, 3, .inr (.inl h1))), (a8, .inl (T 0, 940, .inl (cI f3)))] H locs := w
        refine lv_goto (tgt := 40) hx hb dX0_readLine_36 (by decide) ?_
        refine lv_istore (lv' := [(5, .int (iI z131)), (4, .int (iI 1)), (3, .ref qq1), (0, .ref a0), (1, .ref a1), (2, .ref a2)]) hx hb dX0_readLine_40 hl (by decide) rfl (fun ls hl => ?_)
        refine lv_iload hx hb dX0_readLine_42 (lv_at hl 1 rfl) ?_
        refine lv_if_eq (tgt := 55) hx hb dX0_readLine_44 (by decide) (fun c => absurd c (by decide +kernel)) (fun _ => ?_)
        refine lv_iload hx hb dX0_readLine_47 (lv_at hl 0 rfl) ?_
        refine lv_iconst (v := iI (-1)) hx hb dX0_readLine_49 (by decide +kernel) ?_
        refine lv_icmp_ne (tgt := 55) hx hb dX0_readLine_50 (by decide) (fun c_136 => ?_) (fun c_136 => ?_)
        · replace c_136 : ¬ z131 = (-1) := fun h => c_136 ((iI_eq (Int.le_trans (by decide) z131_a) (Int.le_trans z131_b (by decide)) (by decide) (by decide)).mpr h)
          refine lv_aload_n hx hb dX0_readLine_55 rfl (lv_at hl 3 rfl) ?_
          refine r_get (v := .int (iI x0)) M w 0 5 clX0 rfl (by decide) G269 rfl rfl dX0_readLine_56 ?_
          refine lv_bipush (v := iI 40) hx hb dX0_readLine_59 (by decide +kernel) ?_
          refine lv_icmp_lt (tgt := 70) hx hb dX0_readLine_61 (by decide) (fun c_137 => ?_) (fun c_137 => ?_)
          · replace c_137 := (iI_lt (Int.le_trans (by decide) x0_a) (Int.le_trans x0_b (by decide)) (by decide) (by decide)).mp c_137
            refine lv_aload_n hx hb dX0_readLine_70 rfl (lv_at hl 4 rfl) ?_
            refine k_V (ce := 0) (sl := 0) (rest := []) (wr := [(a0, .inr (0, [.ref a3, .ref a4, .ref a5, .ref a6, .ref a7, .int (iI x0)])), (a3, .inl (T 5, 40, .inr (.inr (.inr (.inr g0))))), (a4, .inl (T 0, 40, .inl (cI f0))), (a5, .inl (T 0, 40, .inl (cI f1))), (a6, .inl (T 0, 40, .inl (cI f2))), (a9, .inl (T 1, 9, .inr (.inl h0))), (a10, .inl (T 0, 9, .inl (cI f4))), (a11, .inl (T 0, 9, .inl (cI f5))), (a12, .inl (T 0, 9, .inl (cI f6))), (a13, .inl (T 0, 9, .inl (cI f7))), (a14, .inl (T 0, 9, .inl (cI f8))), (a15, .inl (T 0, 9, .inl (cI f9))), (a17, .inl (T 0, 3, .inl (cI f10))), (a2, .inr (9, [.ref a9, .ref a10, .ref a11, .ref a12, .ref a13, .ref a14, .ref a15, .ref a16, .ref a17, .int (iI x9), .int (iI x10), .int (iI x11), .int (iI x12), .int (iI x13), .int (iI x14), .int (iI x15), .int (iI x16), .int (iI x17)])), (a16, .inl (T 1, 3, .inr (.inl h1)))]) (r_V (f := 4) [14, 16] M w V_HookedCity_Book_72 G587 G588 (c266_X8_step l D T _ a1 a8 x1 x2 x3 x4 x5 (some qq1) y0 r0 x6 z132 z133 f3 x1_a x1_b x2_a x2_b x3_a x3_b x4_a x4_b x5_a x5_b o0_h x6_a x6_b z132_a z132_b z133_a z133_b f3_h) 14 clX8 rfl rfl (by decide) rfl hl.1 rfl (Nat.le_of_ble_eq_true rfl) dX0_readLine_71 (by decide) (by decide) (by decide) (by decide)) w [14, 16] [0, 1, 2, 3, 4, 5, 6, 7, 8, 9, 10, 11, 12, 13, 15] rfl rfl (by decide) (by decide) rfl rfl (fun u H locs hp w => ?_)
            obtain ⟨z138, z139, z140, fo141, fy142, fr143, z144⟩ := u
            have z138_a : 0 ≤ z138 := hp.1
            have z138_b : z138 ≤ 940 := hp.2.1
            have z139_a : 0 ≤ z139 := hp.2.2.1
            have z139_b : z139 ≤ 940 := hp.2.2.2.1
            have z140_a : 0 ≤ z140 := hp.2.2.2.2.1
            have z140_b : z140 ≤ 5 := hp.2.2.2.2.2.1
            have fo141_h : wok T fo141 := hp.2.2.2.2.2.2.1
            have z144_a : (-2147483648) ≤ z144 := hp.2.2.2.2.2.2.2.1
            have z144_b : z144 ≤ 2147483647 := hp.2.2.2.2.2.2.2.2.1
            have pq145 : gC T (tkAt f3 x1 x2 x3) z140 z139 z138 fy142 fr143 z144 fo141 := hp.2.2.2.2.2.2.2.2.2
            have w : WD D A s.heap [(a0, .inr (0, [.ref a3, .ref a4, .ref a5, .ref a6, .ref a7, .int (iI x0)])), (a3, .inl (T 5, 40, .inr (.inr (.inr (.inr g0))))), (a4, .inl (T 0, 40, .inl (cI f0))), (a5, .inl (T 0, 40, .inl (cI f1))), (a6, .inl (T 0, 40, .inl (cI f2))), (a9, .inl (T 1, 9, .inr (.inl h0))), (a10, .inl (T 0, 9, .inl (cI f4))), (a11, .inl (T 0, 9, .inl (cI f5))), (a12, .inl (T 0, 9, .inl (cI f6))), (a13, .inl (T 0, 9, .inl (cI f7))), (a14, .inl (T 0, 9, .inl (cI f8))), (a15, .inl (T 0, 9, .inl (cI f9))), (a17, .inl (T 0, 3, .inl (cI f10))), (a2, .inr (9, [.ref a9, .ref a10, .ref a11, .ref a12, .ref a13, .ref a14, .ref a15, .ref a16, .ref a17, .int (iI x9), .int (iI x10), .int (iI x11), .int (iI x12), .int (iI x13), .int (iI x14), .int (iI x15), .int (iI x16), .int (iI x17)])), (a16, .inl (T 1, 3, .inr (.inl h1))), (a1, .inr (8, [.ref a8, .int (iI x1), .int (iI x2), .int (iI z138), .int (iI z139), .int (iI z140), (va_rf fo141), .long fy142, .int fr143, .int (iI z144), .int (iI z132), .int (iI z133)])), (a8, .inl (T 0, 940, .inl (cI f3)))] H locs := w
            refine lv_aload_n hx hb dX0_readLine_74 rfl (lv_at hl 3 rfl) ?_
            refine r_get (v := .ref a4) M w 0 1 clX0 rfl (by decide) G264 rfl rfl dX0_readLine_75 ?_
            refine lv_aload_n hx hb dX0_readLine_78 rfl (lv_at hl 3 rfl) ?_
            refine r_get (v := .int (iI x0)) M w 0 5 clX0 rfl (by decide) G269 rfl rfl dX0_readLine_79 ?_
            refine lv_iload hx hb dX0_readLine_82 (lv_at hl 0 rfl) ?_
            refine r_iast (ws' := [(a0, .inr (0, [.ref a3, .ref a4, .ref a5, .ref a6, .ref a7, .int (iI x0)])), (a3, .inl (T 5, 40, .inr (.inr (.inr (.inr g0))))), (a4, .inl (T 0, 40, .inl (cI (upz f0 x0 z131)))), (a5, .inl (T 0, 40, .inl (cI f1))), (a6, .inl (T 0, 40, .inl (cI f2))), (a9, .inl (T 1, 9, .inr (.inl h0))), (a10, .inl (T 0, 9, .inl (cI f4))), (a11, .inl (T 0, 9, .inl (cI f5))), (a12, .inl (T 0, 9, .inl (cI f6))), (a13, .inl (T 0, 9, .inl (cI f7))), (a14, .inl (T 0, 9, .inl (cI f8))), (a15, .inl (T 0, 9, .inl (cI f9))), (a17, .inl (T 0, 3, .inl (cI f10))), (a2, .inr (9, [.ref a9, .ref a10, .ref a11, .ref a12, .ref a13, .ref a14, .ref a15, .ref a16, .ref a17, .int (iI x9), .int (iI x10), .int (iI x11), .int (iI x12), .int (iI x13), .int (iI x14), .int (iI x15), .int (iI x16), .int (iI x17)])), (a16, .inl (T 1, 3, .inr (.inl h1))), (a1, .inr (8, [.ref a8, .int (iI x1), .int (iI x2), .int (iI z138), .int (iI z139), .int (iI z140), (va_rf fo141), .long fy142, .int fr143, .int (iI z144), .int (iI z132), .int (iI z133)])), (a8, .inl (T 0, 940, .inl (cI f3)))]) M w 2 rfl (iI_in (by omega) (by omega) (by decide)) (by rw [cI_up (by omega) (by omega)]; rfl) dX0_readLine_84 (fun H locs w => ?_)
            refine lv_aload_n hx hb dX0_readLine_85 rfl (lv_at hl 3 rfl) ?_
            refine r_get (v := .ref a3) M w 0 0 clX0 rfl (by decide) G263 rfl rfl dX0_readLine_86 ?_
            refine lv_aload_n hx hb dX0_readLine_89 rfl (lv_at hl 3 rfl) ?_
            refine r_get (v := .int (iI x0)) M w 0 5 clX0 rfl (by decide) G269 rfl rfl dX0_readLine_90 ?_
            refine lv_aload_n hx hb dX0_readLine_93 rfl (lv_at hl 2 rfl) ?_
            refine r_wast (ws' := [(a0, .inr (0, [.ref a3, .ref a4, .ref a5, .ref a6, .ref a7, .int (iI x0)])), (a3, .inl (T 5, 40, .inr (.inr (.inr (.inr (va_up g0 (Int32.toNatClampNeg (iI x0)) (some qq1))))))), (a4, .inl (T 0, 40, .inl (cI (upz f0 x0 z131)))), (a5, .inl (T 0, 40, .inl (cI f1))), (a6, .inl (T 0, 40, .inl (cI f2))), (a9, .inl (T 1, 9, .inr (.inl h0))), (a10, .inl (T 0, 9, .inl (cI f4))), (a11, .inl (T 0, 9, .inl (cI f5))), (a12, .inl (T 0, 9, .inl (cI f6))), (a13, .inl (T 0, 9, .inl (cI f7))), (a14, .inl (T 0, 9, .inl (cI f8))), (a15, .inl (T 0, 9, .inl (cI f9))), (a17, .inl (T 0, 3, .inl (cI f10))), (a2, .inr (9, [.ref a9, .ref a10, .ref a11, .ref a12, .ref a13, .ref a14, .ref a15, .ref a16, .ref a17, .int (iI x9), .int (iI x10), .int (iI x11), .int (iI x12), .int (iI x13), .int (iI x14), .int (iI x15), .int (iI x16), .int (iI x17)])), (a16, .inl (T 1, 3, .inr (.inl h1))), (a1, .inr (8, [.ref a8, .int (iI x1), .int (iI x2), .int (iI z138), .int (iI z139), .int (iI z140), (va_rf fo141), .long fy142, .int fr143, .int (iI z144), .int (iI z132), .int (iI z133)])), (a8, .inl (T 0, 940, .inl (cI f3)))]) M w 1 rfl o0_h (iI_in (by omega) (by omega) (by decide)) rfl dX0_readLine_94 (fun H locs w => ?_)
            refine lv_iload hx hb dX0_readLine_95 (lv_at hl 1 rfl) ?_
            refine lv_if_eq (tgt := 107) hx hb dX0_readLine_97 (by decide) (fun c => absurd c (by decide +kernel)) (fun _ => ?_)
            refine lv_aload_n hx hb dX0_readLine_100 rfl (lv_at hl 3 rfl) ?_
            refine lv_aload_n hx hb dX0_readLine_101 rfl (lv_at hl 4 rfl) ?_
            refine lv_aload_n hx hb dX0_readLine_102 rfl (lv_at hl 5 rfl) ?_
            refine k_I (ce := 0) (sl := 0) (rest := []) (wr := [(a4, .inl (T 0, 40, .inl (cI (upz f0 x0 z131))))]) (r_V (f := 6) [0, 15, 13, 1, 3, 4, 16, 5, 6, 7, 8, 9, 10, 11, 14, 12] M w V_HookedCity_Book_75 G1185 G31 (c404_X0_readDeed l D T _ a0 a1 a2 a3 a4 a5 a6 a7 x0 a8 x1 x2 z138 z139 z140 fo141 fy142 fr143 z144 z132 z133 a9 a10 a11 a12 a13 a14 a15 a16 a17 x9 x10 x11 x12 x13 x14 x15 x16 x17 (va_up g0 (Int32.toNatClampNeg (iI x0)) (some qq1)) f1 f2 f3 h0 f4 f5 f6 f7 f8 f9 h1 f10 (by omega) (by omega) x1_a x1_b x2_a x2_b z138_a z138_b z139_a z139_b z140_a z140_b fo141_h z144_a z144_b z132_a z132_b z133_a z133_b x9_a x9_b x10_a x10_b x11_a x11_b x12_a x12_b x13_a x13_b x14_a x14_b x15_a x15_b x16_a x16_b x17_a x17_b (woks_up g0_h o0_h) f1_h f2_h f3_h f4_h f5_h f6_h f7_h f8_h f9_h f10_h) 0 clX0 rfl rfl (by decide) rfl hl.1 rfl (Nat.le_of_ble_eq_true rfl) dX0_readLine_103 (by decide) (by decide) (by decide) (by decide)) w [0, 15, 13, 1, 3, 4, 16, 5, 6, 7, 8, 9, 10, 11, 14, 12] [2] rfl rfl (by decide) (by decide) rfl rfl (fun v u H locs hp w => ?_)
            obtain ⟨z146, z147, z148, z149, fo150, fy151, fr152, z153, z154, z155, fg156, ff157, ff158⟩ := u
            have hv : iI z146 = v := hp.1
            subst hv
            have z146_a : 0 ≤ z146 := hp.2.1
            have z146_b : z146 ≤ 1 := hp.2.2.1
            have z147_a : 0 ≤ z147 := hp.2.2.2.1
            have z147_b : z147 ≤ 940 := hp.2.2.2.2.1
            have z148_a : 0 ≤ z148 := hp.2.2.2.2.2.1
            have z148_b : z148 ≤ 940 := hp.2.2.2.2.2.2.1
            have z149_a : 0 ≤ z149 := hp.2.2.2.2.2.2.2.1
            have z149_b : z149 ≤ 5 := hp.2.2.2.2.2.2.2.2.1
            have fo150_h : wok T fo150 := hp.2.2.2.2.2.2.2.2.2.1
            have z153_a : (-2147483648) ≤ z153 := hp.2.2.2.2.2.2.2.2.2.2.1
            have z153_b : z153 ≤ 2147483647 := hp.2.2.2.2.2.2.2.2.2.2.2.1
            have z154_a : (-2147483648) ≤ z154 := hp.2.2.2.2.2.2.2.2.2.2.2.2.1
            have z154_b : z154 ≤ 2147483647 := hp.2.2.2.2.2.2.2.2.2.2.2.2.2.1
            have z155_a : 0 ≤ z155 := hp.2.2.2.2.2.2.2.2.2.2.2.2.2.2.1
            have z155_b : z155 ≤ 940 := hp.2.2.2.2.2.2.2.2.2.2.2.2.2.2.2.1
            have fg156_h : woks T fg156 := hp.2.2.2.2.2.2.2.2.2.2.2.2.2.2.2.2.1
            have ff157_h : rng (-2147483648) 2147483647 ff157 := hp.2.2.2.2.2.2.2.2.2.2.2.2.2.2.2.2.2.1
            have ff158_h : rng (-1) 8 ff158 := hp.2.2.2.2.2.2.2.2.2.2.2.2.2.2.2.2.2.2.1
            have pq159 : kpo x0 (va_up g0 (Int32.toNatClampNeg (iI x0)) (some qq1)) fg156 := hp.2.2.2.2.2.2.2.2.2.2.2.2.2.2.2.2.2.2.2.1
            have pq160 : kp x0 f1 ff157 := hp.2.2.2.2.2.2.2.2.2.2.2.2.2.2.2.2.2.2.2.2.1
            have pq161 : kp x0 f2 ff158 := hp.2.2.2.2.2.2.2.2.2.2.2.2.2.2.2.2.2.2.2.2.2.1
            have pq162 : z146 = 1 → ∀ a, 0 ≤ a → bk1 T (fg156 (Int32.toNatClampNeg (iI x0))) a (ff157 x0) (ff158 x0) := hp.2.2.2.2.2.2.2.2.2.2.2.2.2.2.2.2.2.2.2.2.2.2.1
            have pq163 : kpB z146 z132 z154 := hp.2.2.2.2.2.2.2.2.2.2.2.2.2.2.2.2.2.2.2.2.2.2.2.1
            have pq164 : ∀ x : Tk × Int × Int, gC T x z140 z139 z138 fy142 fr143 z144 fo141 → RS (bkD f3 x1 x2 (sNa h0 x9) (x, x0)) z146 z154 z155 (fun y => gC T y z149 z148 z147 fy151 fr152 z153 fo150) x0 := hp.2.2.2.2.2.2.2.2.2.2.2.2.2.2.2.2.2.2.2.2.2.2.2.2
            have w : WD D A s.heap [(a4, .inl (T 0, 40, .inl (cI (upz f0 x0 z131)))), (a0, .inr (0, [.ref a3, .ref a4, .ref a5, .ref a6, .ref a7, .int (iI x0)])), (a1, .inr (8, [.ref a8, .int (iI x1), .int (iI x2), .int (iI z147), .int (iI z148), .int (iI z149), (va_rf fo150), .long fy151, .int fr152, .int (iI z153), .int (iI z154), .int (iI z155)])), (a2, .inr (9, [.ref a9, .ref a10, .ref a11, .ref a12, .ref a13, .ref a14, .ref a15, .ref a16, .ref a17, .int (iI x9), .int (iI x10), .int (iI x11), .int (iI x12), .int (iI x13), .int (iI x14), .int (iI x15), .int (iI x16), .int (iI x17)])), (a3, .inl (T 5, 40, .inr (.inr (.inr (.inr fg156))))), (a5, .inl (T 0, 40, .inl (cI ff157))), (a6, .inl (T 0, 40, .inl (cI ff158))), (a8, .inl (T 0, 940, .inl (cI f3))), (a9, .inl (T 1, 9, .inr (.inl h0))), (a10, .inl (T 0, 9, .inl (cI f4))), (a11, .inl (T 0, 9, .inl (cI f5))), (a12, .inl (T 0, 9, .inl (cI f6))), (a13, .inl (T 0, 9, .inl (cI f7))), (a14, .inl (T 0, 9, .inl (cI f8))), (a15, .inl (T 0, 9, .inl (cI f9))), (a16, .inl (T 1, 3, .inr (.inl h1))), (a17, .inl (T 0, 3, .inl (cI f10)))] H locs := w
            exact ret _ (z146, z147, z148, z149, fo150, fy151, fr152, z153, z154, z155, fg156, (upz f0 x0 z131), ff157, ff158) _ _ _ _ _ [1, 2, 3, 4, 0, 5, 6, 7, 8, 9, 10, 11, 12, 13, 14, 15, 16] dX0_readLine_106 (nb_n (by omega) (by omega)) ⟨rfl, z146_a, z146_b, z147_a, z147_b, z148_a, z148_b, z149_a, z149_b, fo150_h, z153_a, z153_b, z154_a, z154_b, z155_a, z155_b, fg156_h, (rng_up f0_h (by omega) (by omega)), ff157_h, ff158_h, (show 0 ≤ ((79 - x0) - (z146 * 40)) from by omega), (show z146 = 1 → bkI T fg156 (upz f0 x0 z131) ff157 ff158 (x0 + 1) from (fun h => bkI_s pp_b (by omega) (by omega) (kpo_tr (kpo_up kpo_rfl (by omega) (by omega) (by omega)) pq159) (kp_up kp_rfl (by omega)) (kp_tr kp_rfl pq160) (kp_tr kp_rfl pq161) (by have e9 := upz_s f0 x0 z131; rw [e9]; exact pq162 h _ (by omega)))), (show kpB z146 x7 z154 from (fun hr => by have y0 := pq134 (by omega); have y2 := pq163 (by omega); omega)), (show ∀ x : Tk × Int × Int, gC T x x5 x4 x3 y0 r0 x6 (some qq1) → RS (bkL f3 x1 x2 (sNa h0 x9) (sNa h1 x10) (x, x0)) z146 z154 z155 (fun y => gC T y z149 z148 z147 fy151 fr152 z153 fo150) x0 from (fun x g => bl_o (cw_0 g (j := 13) (by decide) c_41) (cw_0 g (j := 14) (by decide) c_86) (bnX_1 (pq135 x g) (by omega) (fun _ => if_o (by omega) (pq164 _ (gC_nx g pq145))))))⟩ w (by decide) rfl
          · replace c_137 : 40 ≤ x0 := Int.not_lt.mp (fun h => c_137 ((iI_lt (Int.le_trans (by decide) x0_a) (Int.le_trans x0_b (by decide)) (by decide) (by decide)).mpr h))
            refine lv_aload_n hx hb dX0_readLine_64 rfl (lv_at hl 4 rfl) ?_
            refine lv_iconst (v := iI 4) hx hb dX0_readLine_65 (by decide +kernel) ?_
            refine k_I (ce := 0) (sl := 0) (rest := []) (wr := [(a0, .inr (0, [.ref a3, .ref a4, .ref a5, .ref a6, .ref a7, .int (iI x0)])), (a3, .inl (T 5, 40, .inr (.inr (.inr (.inr g0))))), (a4, .inl (T 0, 40, .inl (cI f0))), (a5, .inl (T 0, 40, .inl (cI f1))), (a6, .inl (T 0, 40, .inl (cI f2))), (a9, .inl (T 1, 9, .inr (.inl h0))), (a10, .inl (T 0, 9, .inl (cI f4))), (a11, .inl (T 0, 9, .inl (cI f5))), (a12, .inl (T 0, 9, .inl (cI f6))), (a13, .inl (T 0, 9, .inl (cI f7))), (a14, .inl (T 0, 9, .inl (cI f8))), (a15, .inl (T 0, 9, .inl (cI f9))), (a17, .inl (T 0, 3, .inl (cI f10))), (a2, .inr (9, [.ref a9, .ref a10, .ref a11, .ref a12, .ref a13, .ref a14, .ref a15, .ref a16, .ref a17, .int (iI x9), .int (iI x10), .int (iI x11), .int (iI x12), .int (iI x13), .int (iI x14), .int (iI x15), .int (iI x16), .int (iI x17)])), (a16, .inl (T 1, 3, .inr (.inl h1))), (a8, .inl (T 0, 940, .inl (cI f3)))]) (r_V (f := 0) [14] M w V_HookedCity_Book_68 G710 G711 (c271_X8_fail l D T _ a1 4 a8 x1 x2 x3 x4 x5 (some qq1) y0 r0 x6 z132 z133 (by decide) (by decide) x1_a x1_b x2_a x2_b x3_a x3_b x4_a x4_b x5_a x5_b o0_h x6_a x6_b z132_a z132_b z133_a z133_b) 14 clX8 rfl rfl (by decide) rfl hl.1 rfl (Nat.le_of_ble_eq_true rfl) dX0_readLine_66 (by decide) (by decide) (by decide) (by decide)) w [14] [0, 1, 2, 3, 4, 5, 6, 7, 8, 9, 10, 11, 12, 13, 15, 16] rfl rfl (by decide) (by decide) rfl rfl (fun v u H locs hp w => ?_)
            obtain ⟨z165, z166, z167⟩ := u
            have hv : iI z165 = v := hp.1
            subst hv
            have z165_a : 0 ≤ z165 := hp.2.1
            have z165_b : z165 ≤ 1 := hp.2.2.1
            have z166_a : (-2147483648) ≤ z166 := hp.2.2.2.1
            have z166_b : z166 ≤ 2147483647 := hp.2.2.2.2.1
            have z167_a : 0 ≤ z167 := hp.2.2.2.2.2.1
            have z167_b : z167 ≤ 940 := hp.2.2.2.2.2.2.1
            have pq168 : z166 = 4 := hp.2.2.2.2.2.2.2.1
            have pq169 : z167 = x4 := hp.2.2.2.2.2.2.2.2.1
            have w : WD D A s.heap [(a0, .inr (0, [.ref a3, .ref a4, .ref a5, .ref a6, .ref a7, .int (iI x0)])), (a3, .inl (T 5, 40, .inr (.inr (.inr (.inr g0))))), (a4, .inl (T 0, 40, .inl (cI f0))), (a5, .inl (T 0, 40, .inl (cI f1))), (a6, .inl (T 0, 40, .inl (cI f2))), (a9, .inl (T 1, 9, .inr (.inl h0))), (a10, .inl (T 0, 9, .inl (cI f4))), (a11, .inl (T 0, 9, .inl (cI f5))), (a12, .inl (T 0, 9, .inl (cI f6))), (a13, .inl (T 0, 9, .inl (cI f7))), (a14, .inl (T 0, 9, .inl (cI f8))), (a15, .inl (T 0, 9, .inl (cI f9))), (a17, .inl (T 0, 3, .inl (cI f10))), (a2, .inr (9, [.ref a9, .ref a10, .ref a11, .ref a12, .ref a13, .ref a14, .ref a15, .ref a16, .ref a17, .int (iI x9), .int (iI x10), .int (iI x11), .int (iI x12), .int (iI x13), .int (iI x14), .int (iI x15), .int (iI x16), .int (iI x17)])), (a16, .inl (T 1, 3, .inr (.inl h1))), (a8, .inl (T 0, 940, .inl (cI f3))), (a1, .inr (8, [.ref a8, .int (iI x1), .int (iI x2), .int (iI x3), .int (iI x4), .int (iI x5), (va_rf (some qq1)), .long y0, .int r0, .int (iI x6), .int (iI z166), .int (iI z167)]))] H locs := w
            rcases hp.2.2.2.2.2.2.2.2.2 with hr
            · subst hr
              exact ret _ (0, x3, x4, x5, (some qq1), y0, r0, x6, z166, z167, g0, f0, f1, f2) _ _ _ _ _ [0, 16, 13, 1, 2, 3, 4, 15, 5, 6, 7, 8, 9, 10, 11, 14, 12] dX0_readLine_69 (by decide +kernel) ⟨rfl, (show (0 : Int) ≤ 0 from by decide), (show (0 : Int) ≤ 1 from by decide), x3_a, x3_b, x4_a, x4_b, x5_a, x5_b, o0_h, x6_a, x6_b, z166_a, z166_b, z167_a, z167_b, g0_h, f0_h, f1_h, f2_h, (show 0 ≤ ((79 - x0) - (0 * 40)) from by omega), (show 0 = 1 → bkI T g0 f0 f1 f2 (x0 + 1) from (fun h => absurd h (by decide))), (show kpB 0 x7 z166 from (fun e => absurd e (by decide))), (show ∀ x : Tk × Int × Int, gC T x x5 x4 x3 y0 r0 x6 (some qq1) → RS (bkL f3 x1 x2 (sNa h0 x9) (sNa h1 x10) (x, x0)) 0 z166 z167 (fun y => gC T y x5 x4 x3 y0 r0 x6 (some qq1)) x0 from (fun x g => bl_o (cw_0 g (j := 13) (by decide) c_41) (cw_0 g (j := 14) (by decide) c_86) (bnX_1 (pq135 x g) (by omega) (fun _ => if_4 (by omega) (by omega) (pq169.trans g.1)))))⟩ w (by decide) rfl
        · replace c_136 := (iI_eq (Int.le_trans (by decide) z131_a) (Int.le_trans z131_b (by decide)) (by decide) (by decide)).mp c_136
          refine lv_iconst (v := iI 0) hx hb dX0_readLine_53 (by decide +kernel) ?_
          exact ret _ (0, x3, x4, x5, (some qq1), y0, r0, x6, z132, z133, g0, f0, f1, f2) _ _ _ _ _ [0, 14, 13, 1, 2, 3, 4, 16, 5, 6, 7, 8, 9, 10, 11, 15, 12] dX0_readLine_54 (by decide +kernel) ⟨rfl, (show (0 : Int) ≤ 0 from by decide), (show (0 : Int) ≤ 1 from by decide), x3_a, x3_b, x4_a, x4_b, x5_a, x5_b, o0_h, x6_a, x6_b, z132_a, z132_b, z133_a, z133_b, g0_h, f0_h, f1_h, f2_h, (show 0 ≤ ((79 - x0) - (0 * 40)) from by omega), (show 0 = 1 → bkI T g0 f0 f1 f2 (x0 + 1) from (fun h => absurd h (by decide))), (show kpB 0 x7 z132 from (fun e => absurd e (by decide))), (show ∀ x : Tk × Int × Int, gC T x x5 x4 x3 y0 r0 x6 (some qq1) → RS (bkL f3 x1 x2 (sNa h0 x9) (sNa h1 x10) (x, x0)) 0 z132 z133 (fun y => gC T y x5 x4 x3 y0 r0 x6 (some qq1)) x0 from (fun x g => bl_o (cw_0 g (j := 13) (by decide) c_41) (cw_0 g (j := 14) (by decide) c_86) (bnX_0 (pq135 x g) (by omega))))⟩ w (by decide) rfl
set_option maxRecDepth 100000 in
set_option maxHeartbeats 4000000 in
theorem c407_X0_read (l : Launch) (D : va_G) (T : Nat → ClassId) (sz : Nat) (a0 : Nat) (a1 : Nat) (a2 : Nat) (a3 : Nat) (a4 : Nat) (a5 : Nat) (a6 : Nat) (a7 : Nat) (x0 : Int) (a8 : Nat) (x1 : Int) (x2 : Int) (x3 : Int) (x4 : Int) (x5 : Int) (o0 : Option Nat) (y0 : Int64) (r0 : Int32) (x6 : Int) (x7 : Int) (x8 : Int) (a9 : Nat) (a10 : Nat) (a11 : Nat) (a12 : Nat) (a13 : Nat) (a14 : Nat) (a15 : Nat) (a16 : Nat) (a17 : Nat) (x9 : Int) (x10 : Int) (x11 : Int) (x12 : Int) (x13 : Int) (x14 : Int) (x15 : Int) (x16 : Int) (x17 : Int) (g0 : Nat → Option Nat) (f0 : Int → Int) (f1 : Int → Int) (f2 : Int → Int) (f3 : Int → Int) (h0 : Nat → Int64) (f4 : Int → Int) (f5 : Int → Int) (f6 : Int → Int) (f7 : Int → Int) (f8 : Int → Int) (f9 : Int → Int) (h1 : Nat → Int64) (f10 : Int → Int) (x0_a : 0 ≤ x0) (x0_b : x0 ≤ 40) (x1_a : 0 ≤ x1) (x1_b : x1 ≤ 940) (x2_a : 0 ≤ x2) (x2_b : x2 ≤ 940) (x3_a : 0 ≤ x3) (x3_b : x3 ≤ 940) (x4_a : 0 ≤ x4) (x4_b : x4 ≤ 940) (x5_a : 0 ≤ x5) (x5_b : x5 ≤ 5) (o0_h : wok T o0) (x6_a : (-2147483648) ≤ x6) (x6_b : x6 ≤ 2147483647) (x7_a : (-2147483648) ≤ x7) (x7_b : x7 ≤ 2147483647) (x8_a : 0 ≤ x8) (x8_b : x8 ≤ 940) (x9_a : 0 ≤ x9) (x9_b : x9 ≤ 9) (x10_a : 0 ≤ x10) (x10_b : x10 ≤ 3) (x11_a : 0 ≤ x11) (x11_b : x11 ≤ 900) (x12_a : (-2147483648) ≤ x12) (x12_b : x12 ≤ 2147483647) (x13_a : (-2147483648) ≤ x13) (x13_b : x13 ≤ 2147483647) (x14_a : (-2147483648) ≤ x14) (x14_b : x14 ≤ 2147483647) (x15_a : 0 ≤ x15) (x15_b : x15 ≤ 1) (x16_a : 0 ≤ x16) (x16_b : x16 ≤ 1) (x17_a : 0 ≤ x17) (x17_b : x17 ≤ 1) (g0_h : woks T g0) (f0_h : rng (-1) 2 f0) (f1_h : rng (-2147483648) 2147483647 f1) (f2_h : rng (-1) 8 f2) (f3_h : rng 0 255 f3) (f4_h : rng (-2147483648) 2147483647 f4) (f5_h : rng (-2147483648) 2147483647 f5) (f6_h : rng (-2147483648) 2147483647 f6) (f7_h : rng 0 511 f7) (f8_h : rng (-1) 8 f8) (f9_h : rng (-1) 8 f9) (f10_h : rng (-2147483648) 2147483647 f10) : Met l yX0_read (Cond.code yX0_read cX0_read 3 (some .boolean) :: GW) (Rm 8 0 0) (cPre [.ref a0, .ref a1, .ref a2] D T [(a0, .inr (0, [.ref a3, .ref a4, .ref a5, .ref a6, .ref a7, .int (iI x0)])), (a1, .inr (8, [.ref a8, .int (iI x1), .int (iI x2), .int (iI x3), .int (iI x4), .int (iI x5), (va_rf o0), .long y0, .int r0, .int (iI x6), .int (iI x7), .int (iI x8)])), (a2, .inr (9, [.ref a9, .ref a10, .ref a11, .ref a12, .ref a13, .ref a14, .ref a15, .ref a16, .ref a17, .int (iI x9), .int (iI x10), .int (iI x11), .int (iI x12), .int (iI x13), .int (iI x14), .int (iI x15), .int (iI x16), .int (iI x17)])), (a3, .inl (T 5, 40, .inr (.inr (.inr (.inr g0))))), (a4, .inl (T 0, 40, .inl (cI f0))), (a5, .inl (T 0, 40, .inl (cI f1))), (a6, .inl (T 0, 40, .inl (cI f2))), (a8, .inl (T 0, 940, .inl (cI f3))), (a9, .inl (T 1, 9, .inr (.inl h0))), (a10, .inl (T 0, 9, .inl (cI f4))), (a11, .inl (T 0, 9, .inl (cI f5))), (a12, .inl (T 0, 9, .inl (cI f6))), (a13, .inl (T 0, 9, .inl (cI f7))), (a14, .inl (T 0, 9, .inl (cI f8))), (a15, .inl (T 0, 9, .inl (cI f9))), (a16, .inl (T 1, 3, .inr (.inl h1))), (a17, .inl (T 0, 3, .inl (cI f10)))] sz) (qI D [(a0, .inr (0, [.ref a3, .ref a4, .ref a5, .ref a6, .ref a7, .int (iI x0)])), (a1, .inr (8, [.ref a8, .int (iI x1), .int (iI x2), .int (iI x3), .int (iI x4), .int (iI x5), (va_rf o0), .long y0, .int r0, .int (iI x6), .int (iI x7), .int (iI x8)])), (a2, .inr (9, [.ref a9, .ref a10, .ref a11, .ref a12, .ref a13, .ref a14, .ref a15, .ref a16, .ref a17, .int (iI x9), .int (iI x10), .int (iI x11), .int (iI x12), .int (iI x13), .int (iI x14), .int (iI x15), .int (iI x16), .int (iI x17)])), (a3, .inl (T 5, 40, .inr (.inr (.inr (.inr g0))))), (a4, .inl (T 0, 40, .inl (cI f0))), (a5, .inl (T 0, 40, .inl (cI f1))), (a6, .inl (T 0, 40, .inl (cI f2))), (a8, .inl (T 0, 940, .inl (cI f3))), (a9, .inl (T 1, 9, .inr (.inl h0))), (a10, .inl (T 0, 9, .inl (cI f4))), (a11, .inl (T 0, 9, .inl (cI f5))), (a12, .inl (T 0, 9, .inl (cI f6))), (a13, .inl (T 0, 9, .inl (cI f7))), (a14, .inl (T 0, 9, .inl (cI f8))), (a15, .inl (T 0, 9, .inl (cI f9))), (a16, .inl (T 1, 3, .inr (.inl h1))), (a17, .inl (T 0, 3, .inl (cI f10)))] sz (fun (v : Int32) (u : Int × Int × Int × Int × Int × Int × Option Nat × Int64 × Int32 × Int × Int × Int × (Nat → Option Nat) × (Int → Int) × (Int → Int) × (Int → Int)) => iI u.1 = v ∧ 0 ≤ u.1 ∧ u.1 ≤ 1 ∧ 0 ≤ u.2.1 ∧ u.2.1 ≤ 40 ∧ 0 ≤ u.2.2.1 ∧ u.2.2.1 ≤ 940 ∧ 0 ≤ u.2.2.2.1 ∧ u.2.2.2.1 ≤ 940 ∧ 0 ≤ u.2.2.2.2.1 ∧ u.2.2.2.2.1 ≤ 940 ∧ 0 ≤ u.2.2.2.2.2.1 ∧ u.2.2.2.2.2.1 ≤ 5 ∧ wok T u.2.2.2.2.2.2.1 ∧ (-2147483648) ≤ u.2.2.2.2.2.2.2.2.2.1 ∧ u.2.2.2.2.2.2.2.2.2.1 ≤ 2147483647 ∧ (-2147483648) ≤ u.2.2.2.2.2.2.2.2.2.2.1 ∧ u.2.2.2.2.2.2.2.2.2.2.1 ≤ 2147483647 ∧ 0 ≤ u.2.2.2.2.2.2.2.2.2.2.2.1 ∧ u.2.2.2.2.2.2.2.2.2.2.2.1 ≤ 940 ∧ woks T u.2.2.2.2.2.2.2.2.2.2.2.2.1 ∧ rng (-1) 2 u.2.2.2.2.2.2.2.2.2.2.2.2.2.1 ∧ rng (-2147483648) 2147483647 u.2.2.2.2.2.2.2.2.2.2.2.2.2.2.1 ∧ rng (-1) 8 u.2.2.2.2.2.2.2.2.2.2.2.2.2.2.2 ∧ (u.1 = 1 → bkI T u.2.2.2.2.2.2.2.2.2.2.2.2.1 u.2.2.2.2.2.2.2.2.2.2.2.2.2.1 u.2.2.2.2.2.2.2.2.2.2.2.2.2.2.1 u.2.2.2.2.2.2.2.2.2.2.2.2.2.2.2 u.2.1) ∧ (kpB u.1 0 u.2.2.2.2.2.2.2.2.2.2.1) ∧ (bqF (bkS f3 x1 (sNa h0 x9) (sNa h1 x10)) u.2.2.2.2.2.2.2.2.2.2.1)) (fun u => [(a0, .inr (0, [.ref a3, .ref a4, .ref a5, .ref a6, .ref a7, .int (iI u.2.1)])), (a1, .inr (8, [.ref a8, .int (iI x1), .int (iI u.2.2.1), .int (iI u.2.2.2.1), .int (iI u.2.2.2.2.1), .int (iI u.2.2.2.2.2.1), (va_rf u.2.2.2.2.2.2.1), .long u.2.2.2.2.2.2.2.1, .int u.2.2.2.2.2.2.2.2.1, .int (iI u.2.2.2.2.2.2.2.2.2.1), .int (iI u.2.2.2.2.2.2.2.2.2.2.1), .int (iI u.2.2.2.2.2.2.2.2.2.2.2.1)])), (a2, .inr (9, [.ref a9, .ref a10, .ref a11, .ref a12, .ref a13, .ref a14, .ref a15, .ref a16, .ref a17, .int (iI x9), .int (iI x10), .int (iI x11), .int (iI x12), .int (iI x13), .int (iI x14), .int (iI x15), .int (iI x16), .int (iI x17)])), (a3, .inl (T 5, 40, .inr (.inr (.inr (.inr u.2.2.2.2.2.2.2.2.2.2.2.2.1))))), (a4, .inl (T 0, 40, .inl (cI u.2.2.2.2.2.2.2.2.2.2.2.2.2.1))), (a5, .inl (T 0, 40, .inl (cI u.2.2.2.2.2.2.2.2.2.2.2.2.2.2.1))), (a6, .inl (T 0, 40, .inl (cI u.2.2.2.2.2.2.2.2.2.2.2.2.2.2.2))), (a8, .inl (T 0, 940, .inl (cI f3))), (a9, .inl (T 1, 9, .inr (.inl h0))), (a10, .inl (T 0, 9, .inl (cI f4))), (a11, .inl (T 0, 9, .inl (cI f5))), (a12, .inl (T 0, 9, .inl (cI f6))), (a13, .inl (T 0, 9, .inl (cI f7))), (a14, .inl (T 0, 9, .inl (cI f8))), (a15, .inl (T 0, 9, .inl (cI f9))), (a16, .inl (T 1, 3, .inr (.inl h1))), (a17, .inl (T 0, 3, .inl (cI f10)))])) 0 0 (va_A [(a0, .inr (0, [.ref a3, .ref a4, .ref a5, .ref a6, .ref a7, .int (iI x0)])), (a1, .inr (8, [.ref a8, .int (iI x1), .int (iI x2), .int (iI x3), .int (iI x4), .int (iI x5), (va_rf o0), .long y0, .int r0, .int (iI x6), .int (iI x7), .int (iI x8)])), (a2, .inr (9, [.ref a9, .ref a10, .ref a11, .ref a12, .ref a13, .ref a14, .ref a15, .ref a16, .ref a17, .int (iI x9), .int (iI x10), .int (iI x11), .int (iI x12), .int (iI x13), .int (iI x14), .int (iI x15), .int (iI x16), .int (iI x17)])), (a3, .inl (T 5, 40, .inr (.inr (.inr (.inr g0))))), (a4, .inl (T 0, 40, .inl (cI f0))), (a5, .inl (T 0, 40, .inl (cI f1))), (a6, .inl (T 0, 40, .inl (cI f2))), (a8, .inl (T 0, 940, .inl (cI f3))), (a9, .inl (T 1, 9, .inr (.inl h0))), (a10, .inl (T 0, 9, .inl (cI f4))), (a11, .inl (T 0, 9, .inl (cI f5))), (a12, .inl (T 0, 9, .inl (cI f6))), (a13, .inl (T 0, 9, .inl (cI f7))), (a14, .inl (T 0, 9, .inl (cI f8))), (a15, .inl (T 0, 9, .inl (cI f9))), (a16, .inl (T 1, 3, .inr (.inl h1))), (a17, .inl (T 0, 3, .inl (cI f10)))] sz) := by
  refine e_Z (by decide) (Nat.le_of_ble_eq_true rfl) ?_
  intro p e s m args below meth c A Q ls M hin w ret hl
  have hx := M.1.1
  have hb := M.1.2.1
  have hl : lv_has ls 3 [(0, .ref a0), (1, .ref a1), (2, .ref a2)] := hl
  refine lv_aload_n hx hb dX0_read_0 rfl (lv_at hl 1 rfl) ?_
  refine lv_sipush (v := iI 400) hx hb dX0_read_1 (by decide +kernel) ?_
  refine k_V (ce := 0) (sl := 0) (rest := []) (wr := [(a0, .inr (0, [.ref a3, .ref a4, .ref a5, .ref a6, .ref a7, .int (iI x0)])), (a2, .inr (9, [.ref a9, .ref a10, .ref a11, .ref a12, .ref a13, .ref a14, .ref a15, .ref a16, .ref a17, .int (iI x9), .int (iI x10), .int (iI x11), .int (iI x12), .int (iI x13), .int (iI x14), .int (iI x15), .int (iI x16), .int (iI x17)])), (a3, .inl (T 5, 40, .inr (.inr (.inr (.inr g0))))), (a4, .inl (T 0, 40, .inl (cI f0))), (a5, .inl (T 0, 40, .inl (cI f1))), (a6, .inl (T 0, 40, .inl (cI f2))), (a9, .inl (T 1, 9, .inr (.inl h0))), (a10, .inl (T 0, 9, .inl (cI f4))), (a11, .inl (T 0, 9, .inl (cI f5))), (a12, .inl (T 0, 9, .inl (cI f6))), (a13, .inl (T 0, 9, .inl (cI f7))), (a14, .inl (T 0, 9, .inl (cI f8))), (a15, .inl (T 0, 9, .inl (cI f9))), (a16, .inl (T 1, 3, .inr (.inl h1))), (a17, .inl (T 0, 3, .inl (cI f10)))]) (r_V (f := 5) [1, 7] M w V_HookedCity_Book_34 G583 G584 (c267_X8_open l D T _ a1 400 a8 x1 x2 x3 x4 x5 o0 y0 r0 x6 x7 x8 f3 (by decide) (by decide) x1_a x1_b x2_a x2_b x3_a x3_b x4_a x4_b x5_a x5_b o0_h x6_a x6_b x7_a x7_b x8_a x8_b f3_h) 1 clX8 rfl rfl (by decide) rfl hl.1 rfl (Nat.le_of_ble_eq_true rfl) dX0_read_4 (by decide) (by decide) (by decide) (by decide)) w [1, 7] [0, 2, 3, 4, 5, 6, 8, 9, 10, 11, 12, 13, 14, 15, 16] rfl rfl (by decide) (by decide) rfl rfl (fun u H locs hp w => ?_)
  obtain ⟨z1, z2, z3, z4, fo5, fy6, fr7, z8, z9, z10⟩ := u
  have z1_a : 0 ≤ z1 := hp.1
  have z1_b : z1 ≤ 940 := hp.2.1
  have z2_a : 0 ≤ z2 := hp.2.2.1
  have z2_b : z2 ≤ 940 := hp.2.2.2.1
  have z3_a : 0 ≤ z3 := hp.2.2.2.2.1
  have z3_b : z3 ≤ 940 := hp.2.2.2.2.2.1
  have z4_a : 0 ≤ z4 := hp.2.2.2.2.2.2.1
  have z4_b : z4 ≤ 5 := hp.2.2.2.2.2.2.2.1
  have fo5_h : wok T fo5 := hp.2.2.2.2.2.2.2.2.1
  have z8_a : (-2147483648) ≤ z8 := hp.2.2.2.2.2.2.2.2.2.1
  have z8_b : z8 ≤ 2147483647 := hp.2.2.2.2.2.2.2.2.2.2.1
  have z9_a : (-2147483648) ≤ z9 := hp.2.2.2.2.2.2.2.2.2.2.2.1
  have z9_b : z9 ≤ 2147483647 := hp.2.2.2.2.2.2.2.2.2.2.2.2.1
  have z10_a : 0 ≤ z10 := hp.2.2.2.2.2.2.2.2.2.2.2.2.2.1
  have z10_b : z10 ≤ 940 := hp.2.2.2.2.2.2.2.2.2.2.2.2.2.2.1
  have ee11 : 0 ≤ (z1 - 400) := hp.2.2.2.2.2.2.2.2.2.2.2.2.2.2.2.1
  have ee12 : 0 ≤ (400 - z1) := hp.2.2.2.2.2.2.2.2.2.2.2.2.2.2.2.2.1
  have ee13 : 0 ≤ z9 := hp.2.2.2.2.2.2.2.2.2.2.2.2.2.2.2.2.2.1
  have ee14 : 0 ≤ (0 - z9) := hp.2.2.2.2.2.2.2.2.2.2.2.2.2.2.2.2.2.2.1
  have pq15 : gC T (tkAt f3 x1 z1 0) z4 z3 z2 fy6 fr7 z8 fo5 := hp.2.2.2.2.2.2.2.2.2.2.2.2.2.2.2.2.2.2.2
  have w : WD D A s.heap [(a0, .inr (0, [.ref a3, .ref a4, .ref a5, .ref a6, .ref a7, .int (iI x0)])), (a2, .inr (9, [.ref a9, .ref a10, .ref a11, .ref a12, .ref a13, .ref a14, .ref a15, .ref a16, .ref a17, .int (iI x9), .int (iI x10), .int (iI x11), .int (iI x12), .int (iI x13), .int (iI x14), .int (iI x15), .int (iI x16), .int (iI x17)])), (a3, .inl (T 5, 40, .inr (.inr (.inr (.inr g0))))), (a4, .inl (T 0, 40, .inl (cI f0))), (a5, .inl (T 0, 40, .inl (cI f1))), (a6, .inl (T 0, 40, .inl (cI f2))), (a9, .inl (T 1, 9, .inr (.inl h0))), (a10, .inl (T 0, 9, .inl (cI f4))), (a11, .inl (T 0, 9, .inl (cI f5))), (a12, .inl (T 0, 9, .inl (cI f6))), (a13, .inl (T 0, 9, .inl (cI f7))), (a14, .inl (T 0, 9, .inl (cI f8))), (a15, .inl (T 0, 9, .inl (cI f9))), (a16, .inl (T 1, 3, .inr (.inl h1))), (a17, .inl (T 0, 3, .inl (cI f10))), (a1, .inr (8, [.ref a8, .int (iI x1), .int (iI z1), .int (iI z2), .int (iI z3), .int (iI z4), (va_rf fo5), .long fy6, .int fr7, .int (iI z8), .int (iI z9), .int (iI z10)])), (a8, .inl (T 0, 940, .inl (cI f3)))] H locs := w
  refine lv_aload_n hx hb dX0_read_7 rfl (lv_at hl 0 rfl) ?_
  refine lv_iconst (v := iI 0) hx hb dX0_read_8 (by decide +kernel) ?_
  refine r_put (ws' := [(a0, .inr (0, [.ref a3, .ref a4, .ref a5, .ref a6, .ref a7, .int (iI 0)])), (a2, .inr (9, [.ref a9, .ref a10, .ref a11, .ref a12, .ref a13, .ref a14, .ref a15, .ref a16, .ref a17, .int (iI x9), .int (iI x10), .int (iI x11), .int (iI x12), .int (iI x13), .int (iI x14), .int (iI x15), .int (iI x16), .int (iI x17)])), (a3, .inl (T 5, 40, .inr (.inr (.inr (.inr g0))))), (a4, .inl (T 0, 40, .inl (cI f0))), (a5, .inl (T 0, 40, .inl (cI f1))), (a6, .inl (T 0, 40, .inl (cI f2))), (a9, .inl (T 1, 9, .inr (.inl h0))), (a10, .inl (T 0, 9, .inl (cI f4))), (a11, .inl (T 0, 9, .inl (cI f5))), (a12, .inl (T 0, 9, .inl (cI f6))), (a13, .inl (T 0, 9, .inl (cI f7))), (a14, .inl (T 0, 9, .inl (cI f8))), (a15, .inl (T 0, 9, .inl (cI f9))), (a16, .inl (T 1, 3, .inr (.inl h1))), (a17, .inl (T 0, 3, .inl (cI f10))), (a1, .inr (8, [.ref a8, .int (iI x1), .int (iI z1), .int (iI z2), .int (iI z3), .int (iI z4), (va_rf fo5), .long fy6, .int fr7, .int (iI z8), .int (iI z9), .int (iI z10)])), (a8, .inl (T 0, 940, .inl (cI f3)))]) M w 0 5 clX0 rfl (by decide) G269 rfl rfl rfl rfl (Nat.le_of_ble_eq_true rfl) rfl dX0_read_9 (fun H locs w => ?_)
  have loop1 : ∀ (k1 : Nat) (z16 : Int) (z17 : Int) (z18 : Int) (z19 : Int) (z20 : Int) (z21 : Int) (fo22 : Option Nat) (fy23 : Int64) (fr24 : Int32) (z25 : Int) (fg26 : Nat → Option Nat) (ff27 : Int → Int) (ff28 : Int → Int) (ff29 : Int → Int) (H : Heap) (locs : List Loc) (ls : Array Slot), 0 ≤ z16 → z16 ≤ 40 → (-2147483648) ≤ z17 → z17 ≤ 2147483647 → 0 ≤ z18 → z18 ≤ 940 → 0 ≤ z19 → z19 ≤ 940 → 0 ≤ z20 → z20 ≤ 940 → 0 ≤ z21 → z21 ≤ 5 → wok T fo22 → (-2147483648) ≤ z25 → z25 ≤ 2147483647 → woks T fg26 → rng (-1) 2 ff27 → rng (-2147483648) 2147483647 ff28 → rng (-1) 8 ff29 → bkI T fg26 ff27 ff28 ff29 z16 → bkJ f3 x1 z1 (sNa h0 x9) (sNa h1 x10) (tkAt f3 x1 z1 0, 0) (fun y => gC T y z21 z20 z19 fy23 fr24 z25 fo22) z16 → z17 = 0 → ((41 - z16) : Int).toNat < k1 → WD D A s.heap [(a0, .inr (0, [.ref a3, .ref a4, .ref a5, .ref a6, .ref a7, .int (iI z16)])), (a2, .inr (9, [.ref a9, .ref a10, .ref a11, .ref a12, .ref a13, .ref a14, .ref a15, .ref a16, .ref a17, .int (iI x9), .int (iI x10), .int (iI x11), .int (iI x12), .int (iI x13), .int (iI x14), .int (iI x15), .int (iI x16), .int (iI x17)])), (a3, .inl (T 5, 40, .inr (.inr (.inr (.inr fg26))))), (a4, .inl (T 0, 40, .inl (cI ff27))), (a5, .inl (T 0, 40, .inl (cI ff28))), (a6, .inl (T 0, 40, .inl (cI ff29))), (a9, .inl (T 1, 9, .inr (.inl h0))), (a10, .inl (T 0, 9, .inl (cI f4))), (a11, .inl (T 0, 9, .inl (cI f5))), (a12, .inl (T 0, 9, .inl (cI f6))), (a13, .inl (T 0, 9, .inl (cI f7))), (a14, .inl (T 0, 9, .inl (cI f8))), (a15, .inl (T 0, 9, .inl (cI f9))), (a16, .inl (T 1, 3, .inr (.inl h1))), (a17, .inl (T 0, 3, .inl (cI f10))), (a1, .inr (8, [.ref a8, .int (iI x1), .int (iI z1), .int (iI z19), .int (iI z20), .int (iI z21), (va_rf fo22), .long fy23, .int fr24, .int (iI z25), .int (iI z17), .int (iI z18)])), (a8, .inl (T 0, 940, .inl (cI f3)))] H locs → lv_has ls 3 [(0, .ref a0), (1, .ref a1), (2, .ref a2)] → W p l e (Rm 8 0 0) s m args below meth c H locs 0 0 Q (F0 m 12 ls []) := by
    intro k1
    induction k1 with
    | zero => intro z16 z17 z18 z19 z20 z21 fo22 fy23 fr24 z25 fg26 ff27 ff28 ff29 H locs ls z16_a z16_b z17_a z17_b z18_a z18_b z19_a z19_b z20_a z20_b z21_a z21_b fo22_h z25_a z25_b fg26_h ff27_h ff28_h ff29_h lq1_b lq1_p lq1_z hm; exact absurd hm (Nat.not_lt_zero _)
    | succ k1 ih1 =>
      intro z16 z17 z18 z19 z20 z21 fo22 fy23 fr24 z25 fg26 ff27 ff28 ff29 H locs ls z16_a z16_b z17_a z17_b z18_a z18_b z19_a z19_b z20_a z20_b z21_a z21_b fo22_h z25_a z25_b fg26_h ff27_h ff28_h ff29_h lq1_b lq1_p lq1_z hm1 w hl
      refine lv_aload_n hx hb dX0_read_12 rfl (lv_at hl 0 rfl) ?_
      refine r_get (v := .int (iI z16)) M w 0 5 clX0 rfl (by decide) G269 rfl rfl dX0_read_13 ?_
      refine lv_bipush (v := iI 40) hx hb dX0_read_16 (by decide +kernel) ?_
      refine lv_icmp_gt (tgt := 61) hx hb dX0_read_18 (by decide) (fun c_30 => ?_) (fun c_30 => ?_)
      · replace c_30 := (iI_lt (by decide) (by decide) (Int.le_trans (by decide) z16_a) (Int.le_trans z16_b (by decide))).mp c_30
        exfalso; omega
      · replace c_30 : z16 ≤ 40 := Int.not_lt.mp (fun h => c_30 ((iI_lt (by decide) (by decide) (Int.le_trans (by decide) z16_a) (Int.le_trans z16_b (by decide))).mpr h))
        refine lv_aload_n hx hb dX0_read_21 rfl (lv_at hl 1 rfl) ?_
        refine k_I (ce := 0) (sl := 0) (rest := []) (wr := [(a0, .inr (0, [.ref a3, .ref a4, .ref a5, .ref a6, .ref a7, .int (iI z16)])), (a2, .inr (9, [.ref a9, .ref a10, .ref a11, .ref a12, .ref a13, .ref a14, .ref a15, .ref a16, .ref a17, .int (iI x9), .int (iI x10), .int (iI x11), .int (iI x12), .int (iI x13), .int (iI x14), .int (iI x15), .int (iI x16), .int (iI x17)])), (a3, .inl (T 5, 40, .inr (.inr (.inr (.inr fg26))))), (a4, .inl (T 0, 40, .inl (cI ff27))), (a5, .inl (T 0, 40, .inl (cI ff28))), (a6, .inl (T 0, 40, .inl (cI ff29))), (a9, .inl (T 1, 9, .inr (.inl h0))), (a10, .inl (T 0, 9, .inl (cI f4))), (a11, .inl (T 0, 9, .inl (cI f5))), (a12, .inl (T 0, 9, .inl (cI f6))), (a13, .inl (T 0, 9, .inl (cI f7))), (a14, .inl (T 0, 9, .inl (cI f8))), (a15, .inl (T 0, 9, .inl (cI f9))), (a16, .inl (T 1, 3, .inr (.inl h1))), (a17, .inl (T 0, 3, .inl (cI f10))), (a8, .inl (T 0, 940, .inl (cI f3)))]) (r_V (f := 0) [15] M w V_HookedCity_Book_40 G696 G697 (c269_X8_atEnd l D T _ a1 a8 x1 z1 z19 z20 z21 fo22 fy23 fr24 z25 z17 z18 x1_a x1_b z1_a z1_b z19_a z19_b z20_a z20_b z21_a z21_b fo22_h z25_a z25_b z17_a z17_b z18_a z18_b) 15 clX8 rfl rfl (by decide) rfl hl.1 rfl (Nat.le_of_ble_eq_true rfl) dX0_read_22 (by decide) (by decide) (by decide) (by decide)) w [15] [0, 1, 2, 3, 4, 5, 6, 7, 8, 9, 10, 11, 12, 13, 14, 16] rfl rfl (by decide) (by decide) rfl rfl (fun v z31 H locs hp w => ?_)
        have hv : iI z31 = v := hp.1
        subst hv
        have z31_a : 0 ≤ z31 := hp.2.1
        have z31_b : z31 ≤ 1 := hp.2.2.1
        have w : WD D A s.heap [(a0, .inr (0, [.ref a3, .ref a4, .ref a5, .ref a6, .ref a7, .int (iI z16)])), (a2, .inr (9, [.ref a9, .ref a10, .ref a11, .ref a12, .ref a13, .ref a14, .ref a15, .ref a16, .ref a17, .int (iI x9), .int (iI x10), .int (iI x11), .int (iI x12), .int (iI x13), .int (iI x14), .int (iI x15), .int (iI x16), .int (iI x17)])), (a3, .inl (T 5, 40, .inr (.inr (.inr (.inr fg26))))), (a4, .inl (T 0, 40, .inl (cI ff27))), (a5, .inl (T 0, 40, .inl (cI ff28))), (a6, .inl (T 0, 40, .inl (cI ff29))), (a9, .inl (T 1, 9, .inr (.inl h0))), (a10, .inl (T 0, 9, .inl (cI f4))), (a11, .inl (T 0, 9, .inl (cI f5))), (a12, .inl (T 0, 9, .inl (cI f6))), (a13, .inl (T 0, 9, .inl (cI f7))), (a14, .inl (T 0, 9, .inl (cI f8))), (a15, .inl (T 0, 9, .inl (cI f9))), (a16, .inl (T 1, 3, .inr (.inl h1))), (a17, .inl (T 0, 3, .inl (cI f10))), (a8, .inl (T 0, 940, .inl (cI f3))), (a1, .inr (8, [.ref a8, .int (iI x1), .int (iI z1), .int (iI z19), .int (iI z20), .int (iI z21), (va_rf fo22), .long fy23, .int fr24, .int (iI z25), .int (iI z17), .int (iI z18)]))] H locs := w
        rcases hp.2.2.2 with ⟨c_32, hr⟩ | ⟨c_33, hr⟩
        · subst hr
          refine lv_if_ne (tgt := 61) hx hb dX0_read_25 (by decide) (fun c => absurd (by decide +kernel) c) (fun _ => ?_)
          refine lv_aload_n hx hb dX0_read_28 rfl (lv_at hl 0 rfl) ?_
          refine lv_aload_n hx hb dX0_read_29 rfl (lv_at hl 1 rfl) ?_
          refine lv_aload_n hx hb dX0_read_30 rfl (lv_at hl 2 rfl) ?_
          refine k_I (ce := 0) (sl := 0) (rest := []) (wr := []) (r_V (f := 7) [0, 16, 1, 2, 3, 4, 5, 15, 6, 7, 8, 9, 10, 11, 12, 13, 14] M w V_HookedCity_Book_44 G1171 G30 (c406_X0_readLine l D T _ a0 a1 a2 a3 a4 a5 a6 a7 z16 a8 x1 z1 z19 z20 z21 fo22 fy23 fr24 z25 z17 z18 a9 a10 a11 a12 a13 a14 a15 a16 a17 x9 x10 x11 x12 x13 x14 x15 x16 x17 fg26 ff27 ff28 ff29 f3 h0 f4 f5 f6 f7 f8 f9 h1 f10 z16_a z16_b x1_a x1_b z1_a z1_b z19_a z19_b z20_a z20_b z21_a z21_b fo22_h z25_a z25_b z17_a z17_b z18_a z18_b x9_a x9_b x10_a x10_b x11_a x11_b x12_a x12_b x13_a x13_b x14_a x14_b x15_a x15_b x16_a x16_b x17_a x17_b fg26_h ff27_h ff28_h ff29_h f3_h f4_h f5_h f6_h f7_h f8_h f9_h f10_h lq1_b) 0 clX0 rfl rfl (by decide) rfl hl.1 rfl (Nat.le_of_ble_eq_true rfl) dX0_read_31 (by decide) (by decide) (by decide) (by decide)) w [0, 16, 1, 2, 3, 4, 5, 15, 6, 7, 8, 9, 10, 11, 12, 13, 14] [] rfl rfl (by decide) (by decide) rfl rfl (fun v u H locs hp w => ?_)
          obtain ⟨z34, z35, z36, z37, fo38, fy39, fr40, z41, z42, z43, fg44, ff45, ff46, ff47⟩ := u
          have hv : iI z34 = v := hp.1
          subst hv
          have z34_a : 0 ≤ z34 := hp.2.1
          have z34_b : z34 ≤ 1 := hp.2.2.1
          have z35_a : 0 ≤ z35 := hp.2.2.2.1
          have z35_b : z35 ≤ 940 := hp.2.2.2.2.1
          have z36_a : 0 ≤ z36 := hp.2.2.2.2.2.1
          have z36_b : z36 ≤ 940 := hp.2.2.2.2.2.2.1
          have z37_a : 0 ≤ z37 := hp.2.2.2.2.2.2.2.1
          have z37_b : z37 ≤ 5 := hp.2.2.2.2.2.2.2.2.1
          have fo38_h : wok T fo38 := hp.2.2.2.2.2.2.2.2.2.1
          have z41_a : (-2147483648) ≤ z41 := hp.2.2.2.2.2.2.2.2.2.2.1
          have z41_b : z41 ≤ 2147483647 := hp.2.2.2.2.2.2.2.2.2.2.2.1
          have z42_a : (-2147483648) ≤ z42 := hp.2.2.2.2.2.2.2.2.2.2.2.2.1
          have z42_b : z42 ≤ 2147483647 := hp.2.2.2.2.2.2.2.2.2.2.2.2.2.1
          have z43_a : 0 ≤ z43 := hp.2.2.2.2.2.2.2.2.2.2.2.2.2.2.1
          have z43_b : z43 ≤ 940 := hp.2.2.2.2.2.2.2.2.2.2.2.2.2.2.2.1
          have fg44_h : woks T fg44 := hp.2.2.2.2.2.2.2.2.2.2.2.2.2.2.2.2.1
          have ff45_h : rng (-1) 2 ff45 := hp.2.2.2.2.2.2.2.2.2.2.2.2.2.2.2.2.2.1
          have ff46_h : rng (-2147483648) 2147483647 ff46 := hp.2.2.2.2.2.2.2.2.2.2.2.2.2.2.2.2.2.2.1
          have ff47_h : rng (-1) 8 ff47 := hp.2.2.2.2.2.2.2.2.2.2.2.2.2.2.2.2.2.2.2.1
          have ee48 : 0 ≤ ((79 - z16) - (z34 * 40)) := hp.2.2.2.2.2.2.2.2.2.2.2.2.2.2.2.2.2.2.2.2.1
          have pq49 : z34 = 1 → bkI T fg44 ff45 ff46 ff47 (z16 + 1) := hp.2.2.2.2.2.2.2.2.2.2.2.2.2.2.2.2.2.2.2.2.2.1
          have pq50 : kpB z34 z17 z42 := hp.2.2.2.2.2.2.2.2.2.2.2.2.2.2.2.2.2.2.2.2.2.2.1
          have pq51 : ∀ x : Tk × Int × Int, gC T x z21 z20 z19 fy23 fr24 z25 fo22 → RS (bkL f3 x1 z1 (sNa h0 x9) (sNa h1 x10) (x, z16)) z34 z42 z43 (fun y => gC T y z37 z36 z35 fy39 fr40 z41 fo38) z16 := hp.2.2.2.2.2.2.2.2.2.2.2.2.2.2.2.2.2.2.2.2.2.2.2
          have w : WD D A s.heap [(a0, .inr (0, [.ref a3, .ref a4, .ref a5, .ref a6, .ref a7, .int (iI z16)])), (a1, .inr (8, [.ref a8, .int (iI x1), .int (iI z1), .int (iI z35), .int (iI z36), .int (iI z37), (va_rf fo38), .long fy39, .int fr40, .int (iI z41), .int (iI z42), .int (iI z43)])), (a2, .inr (9, [.ref a9, .ref a10, .ref a11, .ref a12, .ref a13, .ref a14, .ref a15, .ref a16, .ref a17, .int (iI x9), .int (iI x10), .int (iI x11), .int (iI x12), .int (iI x13), .int (iI x14), .int (iI x15), .int (iI x16), .int (iI x17)])), (a3, .inl (T 5, 40, .inr (.inr (.inr (.inr fg44))))), (a4, .inl (T 0, 40, .inl (cI ff45))), (a5, .inl (T 0, 40, .inl (cI ff46))), (a6, .inl (T 0, 40, .inl (cI ff47))), (a8, .inl (T 0, 940, .inl (cI f3))), (a9, .inl (T 1, 9, .inr (.inl h0))), (a10, .inl (T 0, 9, .inl (cI f4))), (a11, .inl (T 0, 9, .inl (cI f5))), (a12, .inl (T 0, 9, .inl (cI f6))), (a13, .inl (T 0, 9, .inl (cI f7))), (a14, .inl (T 0, 9, .inl (cI f8))), (a15, .inl (T 0, 9, .inl (cI f9))), (a16, .inl (T 1, 3, .inr (.inl h1))), (a17, .inl (T 0, 3, .inl (cI f10)))] H locs := w
          refine lv_if_eq (tgt := 46) hx hb dX0_read_34 (by decide) (fun c_52 => ?_) (fun c_52 => ?_)
          · replace c_52 := (iz_eq (Int.le_trans (by decide) z34_a) (Int.le_trans z34_b (by decide))).mp c_52
            refine lv_iconst (v := iI 0) hx hb dX0_read_46 (by decide +kernel) ?_
            exact ret _ (0, z16, z1, z35, z36, z37, fo38, fy39, fr40, z41, z42, z43, fg44, ff45, ff46, ff47) _ _ _ _ _ [0, 1, 2, 3, 4, 5, 6, 7, 8, 9, 10, 11, 12, 13, 14, 15, 16] dX0_read_47 (by decide +kernel) ⟨rfl, (show (0 : Int) ≤ 0 from by decide), (show (0 : Int) ≤ 1 from by decide), z16_a, z16_b, z1_a, z1_b, z35_a, z35_b, z36_a, z36_b, z37_a, z37_b, fo38_h, z41_a, z41_b, z42_a, z42_b, z43_a, z43_b, fg44_h, ff45_h, ff46_h, ff47_h, (show 0 = 1 → bkI T fg44 ff45 ff46 ff47 z16 from (fun h => absurd h (by decide))), (show kpB 0 0 z42 from (fun e => absurd e (by decide))), (show bqF (bkS f3 x1 (sNa h0 x9) (sNa h1 x10)) z42 from (by have hc := bi_f lq1_p (by omega) (fun x g e => absurd ((gC_end g).mpr e) (by omega)) (fun y hy => bnS_0 (pq51 y hy) (by omega) (G' := fun _ => True) (on' := 0)) rfl (G' := fun _ => True) (R := 0); have e1 : z1 = 400 := (by omega); rw [e1] at hc; rw [bkS, RS_f hc rfl]; exact rfl))⟩ w (by decide) rfl
          · replace c_52 : ¬ z34 = 0 := fun h => c_52 ((iz_eq (Int.le_trans (by decide) z34_a) (Int.le_trans z34_b (by decide))).mpr h)
            refine lv_aload_n hx hb dX0_read_37 rfl (lv_at hl 1 rfl) ?_
            refine lv_bipush (v := iI 59) hx hb dX0_read_38 (by decide +kernel) ?_
            refine k_I (ce := 0) (sl := 0) (rest := []) (wr := [(a0, .inr (0, [.ref a3, .ref a4, .ref a5, .ref a6, .ref a7, .int (iI z16)])), (a2, .inr (9, [.ref a9, .ref a10, .ref a11, .ref a12, .ref a13, .ref a14, .ref a15, .ref a16, .ref a17, .int (iI x9), .int (iI x10), .int (iI x11), .int (iI x12), .int (iI x13), .int (iI x14), .int (iI x15), .int (iI x16), .int (iI x17)])), (a3, .inl (T 5, 40, .inr (.inr (.inr (.inr fg44))))), (a4, .inl (T 0, 40, .inl (cI ff45))), (a5, .inl (T 0, 40, .inl (cI ff46))), (a6, .inl (T 0, 40, .inl (cI ff47))), (a9, .inl (T 1, 9, .inr (.inl h0))), (a10, .inl (T 0, 9, .inl (cI f4))), (a11, .inl (T 0, 9, .inl (cI f5))), (a12, .inl (T 0, 9, .inl (cI f6))), (a13, .inl (T 0, 9, .inl (cI f7))), (a14, .inl (T 0, 9, .inl (cI f8))), (a15, .inl (T 0, 9, .inl (cI f9))), (a16, .inl (T 1, 3, .inr (.inl h1))), (a17, .inl (T 0, 3, .inl (cI f10)))]) (r_V (f := 5) [1, 7] M w V_HookedCity_Book_48 G779 G780 (c272_X8_pass l D T _ a1 59 a8 x1 z1 z35 z36 z37 fo38 fy39 fr40 z41 z42 z43 f3 (by decide) (by decide) x1_a x1_b z1_a z1_b z35_a z35_b z36_a z36_b z37_a z37_b fo38_h z41_a z41_b z42_a z42_b z43_a z43_b f3_h) 1 clX8 rfl rfl (by decide) rfl hl.1 rfl (Nat.le_of_ble_eq_true rfl) dX0_read_40 (by decide) (by decide) (by decide) (by decide)) w [1, 7] [0, 2, 3, 4, 5, 6, 8, 9, 10, 11, 12, 13, 14, 15, 16] rfl rfl (by decide) (by decide) rfl rfl (fun v u H locs hp w => ?_)
            obtain ⟨z53, z54, z55, z56, fo57, fy58, fr59, z60, z61, z62⟩ := u
            have hv : iI z53 = v := hp.1
            subst hv
            have z53_a : 0 ≤ z53 := hp.2.1
            have z53_b : z53 ≤ 1 := hp.2.2.1
            have z54_a : 0 ≤ z54 := hp.2.2.2.1
            have z54_b : z54 ≤ 940 := hp.2.2.2.2.1
            have z55_a : 0 ≤ z55 := hp.2.2.2.2.2.1
            have z55_b : z55 ≤ 940 := hp.2.2.2.2.2.2.1
            have z56_a : 0 ≤ z56 := hp.2.2.2.2.2.2.2.1
            have z56_b : z56 ≤ 5 := hp.2.2.2.2.2.2.2.2.1
            have fo57_h : wok T fo57 := hp.2.2.2.2.2.2.2.2.2.1
            have z60_a : (-2147483648) ≤ z60 := hp.2.2.2.2.2.2.2.2.2.2.1
            have z60_b : z60 ≤ 2147483647 := hp.2.2.2.2.2.2.2.2.2.2.2.1
            have z61_a : (-2147483648) ≤ z61 := hp.2.2.2.2.2.2.2.2.2.2.2.2.1
            have z61_b : z61 ≤ 2147483647 := hp.2.2.2.2.2.2.2.2.2.2.2.2.2.1
            have z62_a : 0 ≤ z62 := hp.2.2.2.2.2.2.2.2.2.2.2.2.2.2.1
            have z62_b : z62 ≤ 940 := hp.2.2.2.2.2.2.2.2.2.2.2.2.2.2.2.1
            have pq63 : ∀ x : Tk × Int × Int, gC T x z37 z36 z35 fy39 fr40 z41 fo38 → enP f3 x1 z1 59 x z53 z61 z62 (fun y => gC T y z56 z55 z54 fy58 fr59 z60 fo57) := hp.2.2.2.2.2.2.2.2.2.2.2.2.2.2.2.2.1
            have pq64 : kpB z53 z42 z61 := hp.2.2.2.2.2.2.2.2.2.2.2.2.2.2.2.2.2
            have w : WD D A s.heap [(a0, .inr (0, [.ref a3, .ref a4, .ref a5, .ref a6, .ref a7, .int (iI z16)])), (a2, .inr (9, [.ref a9, .ref a10, .ref a11, .ref a12, .ref a13, .ref a14, .ref a15, .ref a16, .ref a17, .int (iI x9), .int (iI x10), .int (iI x11), .int (iI x12), .int (iI x13), .int (iI x14), .int (iI x15), .int (iI x16), .int (iI x17)])), (a3, .inl (T 5, 40, .inr (.inr (.inr (.inr fg44))))), (a4, .inl (T 0, 40, .inl (cI ff45))), (a5, .inl (T 0, 40, .inl (cI ff46))), (a6, .inl (T 0, 40, .inl (cI ff47))), (a9, .inl (T 1, 9, .inr (.inl h0))), (a10, .inl (T 0, 9, .inl (cI f4))), (a11, .inl (T 0, 9, .inl (cI f5))), (a12, .inl (T 0, 9, .inl (cI f6))), (a13, .inl (T 0, 9, .inl (cI f7))), (a14, .inl (T 0, 9, .inl (cI f8))), (a15, .inl (T 0, 9, .inl (cI f9))), (a16, .inl (T 1, 3, .inr (.inl h1))), (a17, .inl (T 0, 3, .inl (cI f10))), (a1, .inr (8, [.ref a8, .int (iI x1), .int (iI z1), .int (iI z54), .int (iI z55), .int (iI z56), (va_rf fo57), .long fy58, .int fr59, .int (iI z60), .int (iI z61), .int (iI z62)])), (a8, .inl (T 0, 940, .inl (cI f3)))] H locs := w
            refine lv_if_ne (tgt := 48) hx hb dX0_read_43 (by decide) (fun c_65 => ?_) (fun c_65 => ?_)
            · replace c_65 : ¬ z53 = 0 := fun h => c_65 ((iz_eq (Int.le_trans (by decide) z53_a) (Int.le_trans z53_b (by decide))).mpr h)
              refine lv_aload_n hx hb dX0_read_48 rfl (lv_at hl 0 rfl) ?_
              refine lv_dup hx hb dX0_read_49 rfl ?_
              refine r_get (v := .int (iI z16)) M w 0 5 clX0 rfl (by decide) G269 rfl rfl dX0_read_50 ?_
              refine lv_iconst (v := iI 1) hx hb dX0_read_53 (by decide +kernel) ?_
              refine r_iadd (v := iI (z16 + 1)) M (iI_add _ _) dX0_read_54 ?_
              refine r_put (ws' := [(a0, .inr (0, [.ref a3, .ref a4, .ref a5, .ref a6, .ref a7, .int (iI (z16 + 1))])), (a2, .inr (9, [.ref a9, .ref a10, .ref a11, .ref a12, .ref a13, .ref a14, .ref a15, .ref a16, .ref a17, .int (iI x9), .int (iI x10), .int (iI x11), .int (iI x12), .int (iI x13), .int (iI x14), .int (iI x15), .int (iI x16), .int (iI x17)])), (a3, .inl (T 5, 40, .inr (.inr (.inr (.inr fg44))))), (a4, .inl (T 0, 40, .inl (cI ff45))), (a5, .inl (T 0, 40, .inl (cI ff46))), (a6, .inl (T 0, 40, .inl (cI ff47))), (a9, .inl (T 1, 9, .inr (.inl h0))), (a10, .inl (T 0, 9, .inl (cI f4))), (a11, .inl (T 0, 9, .inl (cI f5))), (a12, .inl (T 0, 9, .inl (cI f6))), (a13, .inl (T 0, 9, .inl (cI f7))), (a14, .inl (T 0, 9, .inl (cI f8))), (a15, .inl (T 0, 9, .inl (cI f9))), (a16, .inl (T 1, 3, .inr (.inl h1))), (a17, .inl (T 0, 3, .inl (cI f10))), (a1, .inr (8, [.ref a8, .int (iI x1), .int (iI z1), .int (iI z54), .int (iI z55), .int (iI z56), (va_rf fo57), .long fy58, .int fr59, .int (iI z60), .int (iI z61), .int (iI z62)])), (a8, .inl (T 0, 940, .inl (cI f3)))]) M w 0 5 clX0 rfl (by decide) G269 rfl rfl rfl rfl (Nat.le_of_ble_eq_true rfl) rfl dX0_read_55 (fun H locs w => ?_)
              refine lv_goto (tgt := 12) hx hb dX0_read_58 (by decide) ?_
              exact ih1 (z16 + 1) z61 z62 z54 z55 z56 fo57 fy58 fr59 z60 fg44 ff45 ff46 ff47 _ _ _ (by omega) (by omega) z61_a z61_b z62_a z62_b z54_a z54_b z55_a z55_b z56_a z56_b fo57_h z60_a z60_b fg44_h ff45_h ff46_h ff47_h (pq49 (by omega)) (bi_t lq1_p (by omega) (fun x g e => absurd ((gC_end g).mpr e) (by omega)) (fun y hy => bnS_1 (pq51 y hy) (by omega) (be_x pq63)) (by omega)) (by have y1 := pq50 (by omega); have y2 := pq64 (by omega); omega) (by omega) w (lv_sub hl [0, 1, 2] rfl)
            · replace c_65 := (iz_eq (Int.le_trans (by decide) z53_a) (Int.le_trans z53_b (by decide))).mp c_65
              refine lv_iconst (v := iI 0) hx hb dX0_read_46 (by decide +kernel) ?_
              exact ret _ (0, z16, z1, z54, z55, z56, fo57, fy58, fr59, z60, z61, z62, fg44, ff45, ff46, ff47) _ _ _ _ _ [0, 15, 1, 2, 3, 4, 5, 16, 6, 7, 8, 9, 10, 11, 12, 13, 14] dX0_read_47 (by decide +kernel) ⟨rfl, (show (0 : Int) ≤ 0 from by decide), (show (0 : Int) ≤ 1 from by decide), z16_a, z16_b, z1_a, z1_b, z54_a, z54_b, z55_a, z55_b, z56_a, z56_b, fo57_h, z60_a, z60_b, z61_a, z61_b, z62_a, z62_b, fg44_h, ff45_h, ff46_h, ff47_h, (show 0 = 1 → bkI T fg44 ff45 ff46 ff47 z16 from (fun h => absurd h (by decide))), (show kpB 0 0 z61 from (fun e => absurd e (by decide))), (show bqF (bkS f3 x1 (sNa h0 x9) (sNa h1 x10)) z61 from (by have hc := bi_f lq1_p (by omega) (fun x g e => absurd ((gC_end g).mpr e) (by omega)) (fun y hy => bnS_1 (pq51 y hy) (by omega) (be_x pq63)) (by omega) (G' := fun _ => True) (R := 0); have e1 : z1 = 400 := (by omega); rw [e1] at hc; rw [bkS, RS_f hc rfl]; exact rfl))⟩ w (by decide) rfl
        · subst hr
          refine lv_if_ne (tgt := 61) hx hb dX0_read_25 (by decide) (fun _ => ?_) (fun c => absurd c (by decide +kernel))
          refine lv_iconst (v := iI 1) hx hb dX0_read_61 (by decide +kernel) ?_
          exact ret _ (1, z16, z1, z19, z20, z21, fo22, fy23, fr24, z25, z17, z18, fg26, ff27, ff28, ff29) _ _ _ _ _ [0, 16, 1, 2, 3, 4, 5, 15, 6, 7, 8, 9, 10, 11, 12, 13, 14] dX0_read_62 (by decide +kernel) ⟨rfl, (show (0 : Int) ≤ 1 from by decide), (show (1 : Int) ≤ 1 from by decide), z16_a, z16_b, z1_a, z1_b, z19_a, z19_b, z20_a, z20_b, z21_a, z21_b, fo22_h, z25_a, z25_b, z17_a, z17_b, z18_a, z18_b, fg26_h, ff27_h, ff28_h, ff29_h, (show 1 = 1 → bkI T fg26 ff27 ff28 ff29 z16 from (fun _ => lq1_b)), (show kpB 1 0 z17 from (fun hr => by omega)), (show bqF (bkS f3 x1 (sNa h0 x9) (sNa h1 x10)) z17 from (by have hc := bi_e lq1_p (by omega) (fun y g => (gC_end g).mp (by omega)) (fa := 0) (pl := 0); have e1 : z1 = 400 := (by omega); rw [e1] at hc; obtain ⟨y9, e9, -⟩ := RS_i hc rfl; rw [bkS, e9]; exact (show z17 = 0 by omega)))⟩ w (by decide) rfl
  exact loop1 ((41 : Int).toNat + 1) 0 z9 z10 z2 z3 z4 fo5 fy6 fr7 z8 g0 f0 f1 f2 _ _ _ (by decide) (by decide) z9_a z9_b z10_a z10_b z2_a z2_b z3_a z3_b z4_a z4_b fo5_h z8_a z8_b g0_h f0_h f1_h f2_h (bkI_0 (by decide)) (bi_0 pq15) (by omega) (Nat.lt_succ_self _) w (lv_sub hl [0, 1, 2] rfl)
set_option maxRecDepth 100000 in
set_option maxHeartbeats 4000000 in
theorem c408_X0_liveButtons (l : Launch) (D : va_G) (T : Nat → ClassId) (sz : Nat) (a0 : Nat) (a1 : Nat) (a2 : Nat) (x0 : Int) (a3 : Nat) (a4 : Nat) (a5 : Nat) (a6 : Nat) (a7 : Nat) (x1 : Int) (a8 : Nat) (a9 : Nat) (a10 : Nat) (a11 : Nat) (a12 : Nat) (a13 : Nat) (a14 : Nat) (a15 : Nat) (a16 : Nat) (x2 : Int) (x3 : Int) (x4 : Int) (x5 : Int) (x6 : Int) (x7 : Int) (x8 : Int) (x9 : Int) (x10 : Int) (a17 : Nat) (a18 : Nat) (a19 : Nat) (a20 : Nat) (r0 : Int32) (r1 : Int32) (r2 : Int32) (r3 : Int32) (f0 : Int → Int) (f1 : Int → Int) (f2 : Int → Int) (f3 : Int → Int) (f4 : Int → Int) (f5 : Int → Int) (f6 : Int → Int) (f7 : Nat → Int32) (f8 : Int → Int) (f9 : Int → Int) (f10 : Nat → Int32) (x0_a : 0 ≤ x0) (x0_b : x0 ≤ 39) (x1_a : 0 ≤ x1) (x1_b : x1 ≤ 40) (x2_a : 0 ≤ x2) (x2_b : x2 ≤ 9) (x3_a : 0 ≤ x3) (x3_b : x3 ≤ 3) (x4_a : 0 ≤ x4) (x4_b : x4 ≤ 900) (x5_a : (-2147483648) ≤ x5) (x5_b : x5 ≤ 2147483647) (x6_a : (-2147483648) ≤ x6) (x6_b : x6 ≤ 2147483647) (x7_a : (-2147483648) ≤ x7) (x7_b : x7 ≤ 2147483647) (x8_a : 0 ≤ x8) (x8_b : x8 ≤ 1) (x9_a : 0 ≤ x9) (x9_b : x9 ≤ 1) (x10_a : 0 ≤ x10) (x10_b : x10 ≤ 1) (f0_h : rng (-1) 2 f0) (f1_h : rng (-2147483648) 2147483647 f1) (f2_h : rng (-1) 8 f2) (f3_h : rng (-2147483648) 2147483647 f3) (f4_h : rng (-2147483648) 2147483647 f4) (f5_h : rng 0 511 f5) (f6_h : rng (-2147483648) 2147483647 f6) (f8_h : rng (-1) 8 f8) (f9_h : rng (-1) 8 f9) (pp_v : 0 ≤ f0 x0 ∧ 0 ≤ f1 x0 ∧ f1 x0 ≤ 8 ∧ 0 ≤ f2 x0) : Met l yX0_liveButtons (Cond.code yX0_liveButtons cX0_liveButtons 5 (some .int) :: GW) (Rm 3 0 0) (cPre [.ref a0, .ref a1, .ref a2, .int (iI x0)] D T [(a0, .inr (0, [.ref a3, .ref a4, .ref a5, .ref a6, .ref a7, .int (iI x1)])), (a1, .inr (9, [.ref a8, .ref a9, .ref a10, .ref a11, .ref a12, .ref a13, .ref a14, .ref a15, .ref a16, .int (iI x2), .int (iI x3), .int (iI x4), .int (iI x5), .int (iI x6), .int (iI x7), .int (iI x8), .int (iI x9), .int (iI x10)])), (a2, .inr (7, [.ref a17, .ref a18, .ref a19, .ref a20, .int r0, .int r1, .int r2, .int r3])), (a4, .inl (T 0, 40, .inl (cI f0))), (a5, .inl (T 0, 40, .inl (cI f1))), (a6, .inl (T 0, 40, .inl (cI f2))), (a9, .inl (T 0, 9, .inl (cI f3))), (a10, .inl (T 0, 9, .inl (cI f4))), (a12, .inl (T 0, 9, .inl (cI f5))), (a16, .inl (T 0, 3, .inl (cI f6))), (a17, .inl (T 0, 9, .inl f7)), (a18, .inl (T 0, 9, .inl (cI f8))), (a19, .inl (T 0, 9, .inl (cI f9))), (a20, .inl (T 0, 3, .inl f10))] sz) (qI D [(a0, .inr (0, [.ref a3, .ref a4, .ref a5, .ref a6, .ref a7, .int (iI x1)])), (a1, .inr (9, [.ref a8, .ref a9, .ref a10, .ref a11, .ref a12, .ref a13, .ref a14, .ref a15, .ref a16, .int (iI x2), .int (iI x3), .int (iI x4), .int (iI x5), .int (iI x6), .int (iI x7), .int (iI x8), .int (iI x9), .int (iI x10)])), (a2, .inr (7, [.ref a17, .ref a18, .ref a19, .ref a20, .int r0, .int r1, .int r2, .int r3])), (a4, .inl (T 0, 40, .inl (cI f0))), (a5, .inl (T 0, 40, .inl (cI f1))), (a6, .inl (T 0, 40, .inl (cI f2))), (a9, .inl (T 0, 9, .inl (cI f3))), (a10, .inl (T 0, 9, .inl (cI f4))), (a12, .inl (T 0, 9, .inl (cI f5))), (a16, .inl (T 0, 3, .inl (cI f6))), (a17, .inl (T 0, 9, .inl f7)), (a18, .inl (T 0, 9, .inl (cI f8))), (a19, .inl (T 0, 9, .inl (cI f9))), (a20, .inl (T 0, 3, .inl f10))] sz (fun (v : Int32) (u : Int × Int32 × (Int → Int) × (Int → Int) × (Nat → Int32)) => iI u.1 = v ∧ (-2147483648) ≤ u.1 ∧ u.1 ≤ 2147483647 ∧ rng (-1) 8 u.2.2.1 ∧ rng (-1) 8 u.2.2.2.1) (fun u => [(a0, .inr (0, [.ref a3, .ref a4, .ref a5, .ref a6, .ref a7, .int (iI x1)])), (a1, .inr (9, [.ref a8, .ref a9, .ref a10, .ref a11, .ref a12, .ref a13, .ref a14, .ref a15, .ref a16, .int (iI x2), .int (iI x3), .int (iI x4), .int (iI x5), .int (iI x6), .int (iI x7), .int (iI x8), .int (iI x9), .int (iI x10)])), (a2, .inr (7, [.ref a17, .ref a18, .ref a19, .ref a20, .int r0, .int r1, .int u.2.1, .int r3])), (a4, .inl (T 0, 40, .inl (cI f0))), (a5, .inl (T 0, 40, .inl (cI f1))), (a6, .inl (T 0, 40, .inl (cI f2))), (a9, .inl (T 0, 9, .inl (cI f3))), (a10, .inl (T 0, 9, .inl (cI f4))), (a12, .inl (T 0, 9, .inl (cI f5))), (a16, .inl (T 0, 3, .inl (cI f6))), (a17, .inl (T 0, 9, .inl f7)), (a18, .inl (T 0, 9, .inl (cI u.2.2.1))), (a19, .inl (T 0, 9, .inl (cI u.2.2.2.1))), (a20, .inl (T 0, 3, .inl u.2.2.2.2))])) 0 0 (va_A [(a0, .inr (0, [.ref a3, .ref a4, .ref a5, .ref a6, .ref a7, .int (iI x1)])), (a1, .inr (9, [.ref a8, .ref a9, .ref a10, .ref a11, .ref a12, .ref a13, .ref a14, .ref a15, .ref a16, .int (iI x2), .int (iI x3), .int (iI x4), .int (iI x5), .int (iI x6), .int (iI x7), .int (iI x8), .int (iI x9), .int (iI x10)])), (a2, .inr (7, [.ref a17, .ref a18, .ref a19, .ref a20, .int r0, .int r1, .int r2, .int r3])), (a4, .inl (T 0, 40, .inl (cI f0))), (a5, .inl (T 0, 40, .inl (cI f1))), (a6, .inl (T 0, 40, .inl (cI f2))), (a9, .inl (T 0, 9, .inl (cI f3))), (a10, .inl (T 0, 9, .inl (cI f4))), (a12, .inl (T 0, 9, .inl (cI f5))), (a16, .inl (T 0, 3, .inl (cI f6))), (a17, .inl (T 0, 9, .inl f7)), (a18, .inl (T 0, 9, .inl (cI f8))), (a19, .inl (T 0, 9, .inl (cI f9))), (a20, .inl (T 0, 3, .inl f10))] sz) := by
  refine e_I (by decide) (Nat.le_of_ble_eq_true rfl) ?_
  intro p e s m args below meth c A Q ls M hin w ret hl
  have hx := M.1.1
  have hb := M.1.2.1
  have hl : lv_has ls 5 [(0, .ref a0), (1, .ref a1), (2, .ref a2), (3, .int (iI x0))] := hl
  refine lv_aload_n hx hb dX0_liveButtons_0 rfl (lv_at hl 2 rfl) ?_
  refine lv_aload_n hx hb dX0_liveButtons_1 rfl (lv_at hl 1 rfl) ?_
  refine lv_aload_n hx hb dX0_liveButtons_2 rfl (lv_at hl 0 rfl) ?_
  refine r_get (v := .ref a4) M w 0 1 clX0 rfl (by decide) G264 rfl rfl dX0_liveButtons_3 ?_
  refine lv_iload_n hx hb dX0_liveButtons_6 rfl (lv_at hl 3 rfl) ?_
  refine r_iald (v := iI (f0 x0)) M w 3 rfl (iI_in (by omega) (by omega) (by decide)) (cI_at (by omega) (by omega)) dX0_liveButtons_7 ?_
  have hh1 : (-1) ≤ (f0 x0) ∧ (f0 x0) ≤ 2 := f0_h x0
  refine lv_aload_n hx hb dX0_liveButtons_8 rfl (lv_at hl 0 rfl) ?_
  refine r_get (v := .ref a5) M w 0 2 clX0 rfl (by decide) G265 rfl rfl dX0_liveButtons_9 ?_
  refine lv_iload_n hx hb dX0_liveButtons_12 rfl (lv_at hl 3 rfl) ?_
  refine r_iald (v := iI (f1 x0)) M w 4 rfl (iI_in (by omega) (by omega) (by decide)) (cI_at (by omega) (by omega)) dX0_liveButtons_13 ?_
  have hh2 : (-2147483648) ≤ (f1 x0) ∧ (f1 x0) ≤ 2147483647 := f1_h x0
  refine lv_aload_n hx hb dX0_liveButtons_14 rfl (lv_at hl 0 rfl) ?_
  refine r_get (v := .ref a6) M w 0 3 clX0 rfl (by decide) G266 rfl rfl dX0_liveButtons_15 ?_
  refine lv_iload_n hx hb dX0_liveButtons_18 rfl (lv_at hl 3 rfl) ?_
  refine r_iald (v := iI (f2 x0)) M w 5 rfl (iI_in (by omega) (by omega) (by decide)) (cI_at (by omega) (by omega)) dX0_liveButtons_19 ?_
  have hh3 : (-1) ≤ (f2 x0) ∧ (f2 x0) ≤ 8 := f2_h x0
  refine k_I (ce := 0) (sl := 0) (rest := []) (wr := [(a0, .inr (0, [.ref a3, .ref a4, .ref a5, .ref a6, .ref a7, .int (iI x1)])), (a4, .inl (T 0, 40, .inl (cI f0))), (a5, .inl (T 0, 40, .inl (cI f1))), (a6, .inl (T 0, 40, .inl (cI f2)))]) (r_V (f := 2) [2, 1, 10, 11, 12, 13, 6, 7, 8, 9] M w V_HookedCity_Book_133 G844 G845 (c224_X7_whyNotDoUp l D T _ a2 a1 (f0 x0) (f1 x0) (f2 x0) a17 a18 a19 a20 r0 r1 r2 r3 a8 a9 a10 a11 a12 a13 a14 a15 a16 x2 x3 x4 x5 x6 x7 x8 x9 x10 f7 f8 f9 f10 f3 f4 f5 f6 (by omega) (by omega) (by omega) (by omega) (by omega) (by omega) x2_a x2_b x3_a x3_b x4_a x4_b x5_a x5_b x6_a x6_b x7_a x7_b x8_a x8_b x9_a x9_b x10_a x10_b f8_h f9_h f3_h f4_h f5_h f6_h) 2 clX7 rfl rfl (by decide) rfl hl.1 rfl (Nat.le_of_ble_eq_true rfl) dX0_liveButtons_20 (by decide) (by decide) (by decide) (by decide)) w [2, 1, 10, 11, 12, 13, 6, 7, 8, 9] [0, 3, 4, 5] rfl rfl (by decide) (by decide) rfl rfl (fun v z4 H locs hp w => ?_)
  have hv : iI z4 = v := hp.1
  subst hv
  have z4_a : (-2147483648) ≤ z4 := hp.2.1
  have z4_b : z4 ≤ 2147483647 := hp.2.2
  have w : WD D A s.heap [(a0, .inr (0, [.ref a3, .ref a4, .ref a5, .ref a6, .ref a7, .int (iI x1)])), (a4, .inl (T 0, 40, .inl (cI f0))), (a5, .inl (T 0, 40, .inl (cI f1))), (a6, .inl (T 0, 40, .inl (cI f2))), (a2, .inr (7, [.ref a17, .ref a18, .ref a19, .ref a20, .int r0, .int r1, .int r2, .int r3])), (a1, .inr (9, [.ref a8, .ref a9, .ref a10, .ref a11, .ref a12, .ref a13, .ref a14, .ref a15, .ref a16, .int (iI x2), .int (iI x3), .int (iI x4), .int (iI x5), .int (iI x6), .int (iI x7), .int (iI x8), .int (iI x9), .int (iI x10)])), (a17, .inl (T 0, 9, .inl f7)), (a18, .inl (T 0, 9, .inl (cI f8))), (a19, .inl (T 0, 9, .inl (cI f9))), (a20, .inl (T 0, 3, .inl f10)), (a9, .inl (T 0, 9, .inl (cI f3))), (a10, .inl (T 0, 9, .inl (cI f4))), (a12, .inl (T 0, 9, .inl (cI f5))), (a16, .inl (T 0, 3, .inl (cI f6)))] H locs := w
  refine lv_istore (lv' := [(4, .int (iI z4)), (0, .ref a0), (1, .ref a1), (2, .ref a2), (3, .int (iI x0))]) hx hb dX0_liveButtons_23 hl (by decide) rfl (fun ls hl => ?_)
  refine lv_iload hx hb dX0_liveButtons_25 (lv_at hl 0 rfl) ?_
  refine lv_if_ne (tgt := 52) hx hb dX0_liveButtons_27 (by decide) (fun c_5 => ?_) (fun c_5 => ?_)
  · replace c_5 : ¬ z4 = 0 := fun h => c_5 ((iz_eq (Int.le_trans (by decide) z4_a) (Int.le_trans z4_b (by decide))).mpr h)
    refine lv_iload hx hb dX0_liveButtons_52 (lv_at hl 0 rfl) ?_
    exact ret _ (z4, r2, f8, f9, f10) _ _ _ _ _ [0, 5, 4, 1, 2, 3, 10, 11, 12, 13, 6, 7, 8, 9] dX0_liveButtons_54 ⟨rfl, z4_a, z4_b, f8_h, f9_h⟩ w (by decide) rfl
  · replace c_5 := (iz_eq (Int.le_trans (by decide) z4_a) (Int.le_trans z4_b (by decide))).mp c_5
    refine lv_aload_n hx hb dX0_liveButtons_30 rfl (lv_at hl 3 rfl) ?_
    refine lv_aload_n hx hb dX0_liveButtons_31 rfl (lv_at hl 1 rfl) ?_
    refine r_get (v := .ref a4) M w 0 1 clX0 rfl (by decide) G264 rfl rfl dX0_liveButtons_32 ?_
    refine lv_iload_n hx hb dX0_liveButtons_35 rfl (lv_at hl 4 rfl) ?_
    refine r_iald (v := iI (f0 x0)) M w 1 rfl (iI_in (by omega) (by omega) (by decide)) (cI_at (by omega) (by omega)) dX0_liveButtons_36 ?_
    have hh6 : (-1) ≤ (f0 x0) ∧ (f0 x0) ≤ 2 := f0_h x0
    refine lv_aload_n hx hb dX0_liveButtons_37 rfl (lv_at hl 1 rfl) ?_
    refine r_get (v := .ref a5) M w 0 2 clX0 rfl (by decide) G265 rfl rfl dX0_liveButtons_38 ?_
    refine lv_iload_n hx hb dX0_liveButtons_41 rfl (lv_at hl 4 rfl) ?_
    refine r_iald (v := iI (f1 x0)) M w 2 rfl (iI_in (by omega) (by omega) (by decide)) (cI_at (by omega) (by omega)) dX0_liveButtons_42 ?_
    have hh7 : (-2147483648) ≤ (f1 x0) ∧ (f1 x0) ≤ 2147483647 := f1_h x0
    refine lv_aload_n hx hb dX0_liveButtons_43 rfl (lv_at hl 1 rfl) ?_
    refine r_get (v := .ref a6) M w 0 3 clX0 rfl (by decide) G266 rfl rfl dX0_liveButtons_44 ?_
    refine lv_iload_n hx hb dX0_liveButtons_47 rfl (lv_at hl 4 rfl) ?_
    refine r_iald (v := iI (f2 x0)) M w 3 rfl (iI_in (by omega) (by omega) (by decide)) (cI_at (by omega) (by omega)) dX0_liveButtons_48 ?_
    have hh8 : (-1) ≤ (f2 x0) ∧ (f2 x0) ≤ 8 := f2_h x0
    refine k_V (ce := 0) (sl := 0) (rest := []) (wr := [(a0, .inr (0, [.ref a3, .ref a4, .ref a5, .ref a6, .ref a7, .int (iI x1)])), (a4, .inl (T 0, 40, .inl (cI f0))), (a5, .inl (T 0, 40, .inl (cI f1))), (a6, .inl (T 0, 40, .inl (cI f2))), (a1, .inr (9, [.ref a8, .ref a9, .ref a10, .ref a11, .ref a12, .ref a13, .ref a14, .ref a15, .ref a16, .int (iI x2), .int (iI x3), .int (iI x4), .int (iI x5), .int (iI x6), .int (iI x7), .int (iI x8), .int (iI x9), .int (iI x10)])), (a17, .inl (T 0, 9, .inl f7)), (a9, .inl (T 0, 9, .inl (cI f3))), (a10, .inl (T 0, 9, .inl (cI f4))), (a12, .inl (T 0, 9, .inl (cI f5))), (a16, .inl (T 0, 3, .inl (cI f6)))]) (r_V (f := 0) [4, 7, 8, 9] M w V_HookedCity_Book_137 G869 G870 (c225_X7_doUp l D T _ a2 (f0 x0) (f1 x0) (f2 x0) a17 a18 a19 a20 r0 r1 r2 r3 f8 f9 f10 (by omega) (by omega) (by omega) (by omega) (by omega) (by omega) f8_h f9_h) 4 clX7 rfl rfl (by decide) rfl hl.1 rfl (Nat.le_of_ble_eq_true rfl) dX0_liveButtons_49 (by decide) (by decide) (by decide) (by decide)) w [4, 7, 8, 9] [0, 1, 2, 3, 5, 6, 10, 11, 12, 13] rfl rfl (by decide) (by decide) rfl rfl (fun u H locs hp w => ?_)
    obtain ⟨fr9, ff10, ff11, ff12⟩ := u
    have ff10_h : rng (-1) 8 ff10 := hp.1
    have ff11_h : rng (-1) 8 ff11 := hp.2
    have w : WD D A s.heap [(a0, .inr (0, [.ref a3, .ref a4, .ref a5, .ref a6, .ref a7, .int (iI x1)])), (a4, .inl (T 0, 40, .inl (cI f0))), (a5, .inl (T 0, 40, .inl (cI f1))), (a6, .inl (T 0, 40, .inl (cI f2))), (a1, .inr (9, [.ref a8, .ref a9, .ref a10, .ref a11, .ref a12, .ref a13, .ref a14, .ref a15, .ref a16, .int (iI x2), .int (iI x3), .int (iI x4), .int (iI x5), .int (iI x6), .int (iI x7), .int (iI x8), .int (iI x9), .int (iI x10)])), (a17, .inl (T 0, 9, .inl f7)), (a9, .inl (T 0, 9, .inl (cI f3))), (a10, .inl (T 0, 9, .inl (cI f4))), (a12, .inl (T 0, 9, .inl (cI f5))), (a16, .inl (T 0, 3, .inl (cI f6))), (a2, .inr (7, [.ref a17, .ref a18, .ref a19, .ref a20, .int r0, .int r1, .int fr9, .int r3])), (a18, .inl (T 0, 9, .inl (cI ff10))), (a19, .inl (T 0, 9, .inl (cI ff11))), (a20, .inl (T 0, 3, .inl ff12))] H locs := w
    refine lv_iload hx hb dX0_liveButtons_52 (lv_at hl 0 rfl) ?_
    exact ret _ (z4, fr9, ff10, ff11, ff12) _ _ _ _ _ [0, 4, 10, 1, 2, 3, 6, 7, 8, 9, 5, 11, 12, 13] dX0_liveButtons_54 ⟨rfl, z4_a, z4_b, ff10_h, ff11_h⟩ w (by decide) rfl
set_option maxRecDepth 100000 in
set_option maxHeartbeats 4000000 in
theorem c409_X0_liveLine (l : Launch) (D : va_G) (T : Nat → ClassId) (sz : Nat) (a0 : Nat) (a1 : Nat) (a2 : Nat) (x0 : Int) (a3 : Nat) (a4 : Nat) (a5 : Nat) (a6 : Nat) (a7 : Nat) (x1 : Int) (a8 : Nat) (a9 : Nat) (a10 : Nat) (a11 : Nat) (a12 : Nat) (a13 : Nat) (a14 : Nat) (a15 : Nat) (a16 : Nat) (x2 : Int) (x3 : Int) (x4 : Int) (x5 : Int) (x6 : Int) (x7 : Int) (x8 : Int) (x9 : Int) (x10 : Int) (a17 : Nat) (a18 : Nat) (a19 : Nat) (a20 : Nat) (r0 : Int32) (r1 : Int32) (r2 : Int32) (r3 : Int32) (g0 : Nat → Option Nat) (f0 : Int → Int) (f1 : Int → Int) (f2 : Int → Int) (f3 : Int → Int) (f4 : Int → Int) (f5 : Int → Int) (f6 : Int → Int) (f7 : Int → Int) (f8 : Nat → Int32) (f9 : Int → Int) (f10 : Int → Int) (f11 : Nat → Int32) (x0_a : 0 ≤ x0) (x0_b : x0 ≤ 39) (x1_a : 0 ≤ x1) (x1_b : x1 ≤ 40) (x2_a : 0 ≤ x2) (x2_b : x2 ≤ 9) (x3_a : 0 ≤ x3) (x3_b : x3 ≤ 3) (x4_a : 0 ≤ x4) (x4_b : x4 ≤ 900) (x5_a : (-2147483648) ≤ x5) (x5_b : x5 ≤ 2147483647) (x6_a : (-2147483648) ≤ x6) (x6_b : x6 ≤ 2147483647) (x7_a : (-2147483648) ≤ x7) (x7_b : x7 ≤ 2147483647) (x8_a : 0 ≤ x8) (x8_b : x8 ≤ 1) (x9_a : 0 ≤ x9) (x9_b : x9 ≤ 1) (x10_a : 0 ≤ x10) (x10_b : x10 ≤ 1) (g0_h : woks T g0) (f0_h : rng (-1) 2 f0) (f1_h : rng (-2147483648) 2147483647 f1) (f2_h : rng (-1) 8 f2) (f3_h : rng (-2147483648) 2147483647 f3) (f4_h : rng (-2147483648) 2147483647 f4) (f5_h : rng (-2147483648) 2147483647 f5) (f6_h : rng 0 511 f6) (f7_h : rng (-2147483648) 2147483647 f7) (f9_h : rng (-1) 8 f9) (f10_h : rng (-1) 8 f10) (pp_b : bk1 T (g0 (Int32.toNatClampNeg (iI x0))) (f0 x0) (f1 x0) (f2 x0)) : Met l yX0_liveLine (Cond.code yX0_liveLine cX0_liveLine 8 (some .int) :: GW) (Rm 4 0 0) (cPre [.ref a0, .ref a1, .ref a2, .int (iI x0)] D T [(a0, .inr (0, [.ref a3, .ref a4, .ref a5, .ref a6, .ref a7, .int (iI x1)])), (a1, .inr (9, [.ref a8, .ref a9, .ref a10, .ref a11, .ref a12, .ref a13, .ref a14, .ref a15, .ref a16, .int (iI x2), .int (iI x3), .int (iI x4), .int (iI x5), .int (iI x6), .int (iI x7), .int (iI x8), .int (iI x9), .int (iI x10)])), (a2, .inr (7, [.ref a17, .ref a18, .ref a19, .ref a20, .int r0, .int r1, .int r2, .int r3])), (a3, .inl (T 5, 40, .inr (.inr (.inr (.inr g0))))), (a4, .inl (T 0, 40, .inl (cI f0))), (a5, .inl (T 0, 40, .inl (cI f1))), (a6, .inl (T 0, 40, .inl (cI f2))), (a9, .inl (T 0, 9, .inl (cI f3))), (a10, .inl (T 0, 9, .inl (cI f4))), (a11, .inl (T 0, 9, .inl (cI f5))), (a12, .inl (T 0, 9, .inl (cI f6))), (a16, .inl (T 0, 3, .inl (cI f7))), (a17, .inl (T 0, 9, .inl f8)), (a18, .inl (T 0, 9, .inl (cI f9))), (a19, .inl (T 0, 9, .inl (cI f10))), (a20, .inl (T 0, 3, .inl f11))] sz) (qI D [(a0, .inr (0, [.ref a3, .ref a4, .ref a5, .ref a6, .ref a7, .int (iI x1)])), (a1, .inr (9, [.ref a8, .ref a9, .ref a10, .ref a11, .ref a12, .ref a13, .ref a14, .ref a15, .ref a16, .int (iI x2), .int (iI x3), .int (iI x4), .int (iI x5), .int (iI x6), .int (iI x7), .int (iI x8), .int (iI x9), .int (iI x10)])), (a2, .inr (7, [.ref a17, .ref a18, .ref a19, .ref a20, .int r0, .int r1, .int r2, .int r3])), (a3, .inl (T 5, 40, .inr (.inr (.inr (.inr g0))))), (a4, .inl (T 0, 40, .inl (cI f0))), (a5, .inl (T 0, 40, .inl (cI f1))), (a6, .inl (T 0, 40, .inl (cI f2))), (a9, .inl (T 0, 9, .inl (cI f3))), (a10, .inl (T 0, 9, .inl (cI f4))), (a11, .inl (T 0, 9, .inl (cI f5))), (a12, .inl (T 0, 9, .inl (cI f6))), (a16, .inl (T 0, 3, .inl (cI f7))), (a17, .inl (T 0, 9, .inl f8)), (a18, .inl (T 0, 9, .inl (cI f9))), (a19, .inl (T 0, 9, .inl (cI f10))), (a20, .inl (T 0, 3, .inl f11))] sz (fun (v : Int32) (u : Int × Int32 × Int32 × Int32 × Int32 × (Nat → Int32) × (Int → Int) × (Int → Int) × (Nat → Int32)) => iI u.1 = v ∧ (-2147483648) ≤ u.1 ∧ u.1 ≤ 2147483647 ∧ rng (-1) 8 u.2.2.2.2.2.2.1 ∧ rng (-1) 8 u.2.2.2.2.2.2.2.1) (fun u => [(a0, .inr (0, [.ref a3, .ref a4, .ref a5, .ref a6, .ref a7, .int (iI x1)])), (a1, .inr (9, [.ref a8, .ref a9, .ref a10, .ref a11, .ref a12, .ref a13, .ref a14, .ref a15, .ref a16, .int (iI x2), .int (iI x3), .int (iI x4), .int (iI x5), .int (iI x6), .int (iI x7), .int (iI x8), .int (iI x9), .int (iI x10)])), (a2, .inr (7, [.ref a17, .ref a18, .ref a19, .ref a20, .int u.2.1, .int u.2.2.1, .int u.2.2.2.1, .int u.2.2.2.2.1])), (a3, .inl (T 5, 40, .inr (.inr (.inr (.inr g0))))), (a4, .inl (T 0, 40, .inl (cI f0))), (a5, .inl (T 0, 40, .inl (cI f1))), (a6, .inl (T 0, 40, .inl (cI f2))), (a9, .inl (T 0, 9, .inl (cI f3))), (a10, .inl (T 0, 9, .inl (cI f4))), (a11, .inl (T 0, 9, .inl (cI f5))), (a12, .inl (T 0, 9, .inl (cI f6))), (a16, .inl (T 0, 3, .inl (cI f7))), (a17, .inl (T 0, 9, .inl u.2.2.2.2.2.1)), (a18, .inl (T 0, 9, .inl (cI u.2.2.2.2.2.2.1))), (a19, .inl (T 0, 9, .inl (cI u.2.2.2.2.2.2.2.1))), (a20, .inl (T 0, 3, .inl u.2.2.2.2.2.2.2.2))])) 0 0 (va_A [(a0, .inr (0, [.ref a3, .ref a4, .ref a5, .ref a6, .ref a7, .int (iI x1)])), (a1, .inr (9, [.ref a8, .ref a9, .ref a10, .ref a11, .ref a12, .ref a13, .ref a14, .ref a15, .ref a16, .int (iI x2), .int (iI x3), .int (iI x4), .int (iI x5), .int (iI x6), .int (iI x7), .int (iI x8), .int (iI x9), .int (iI x10)])), (a2, .inr (7, [.ref a17, .ref a18, .ref a19, .ref a20, .int r0, .int r1, .int r2, .int r3])), (a3, .inl (T 5, 40, .inr (.inr (.inr (.inr g0))))), (a4, .inl (T 0, 40, .inl (cI f0))), (a5, .inl (T 0, 40, .inl (cI f1))), (a6, .inl (T 0, 40, .inl (cI f2))), (a9, .inl (T 0, 9, .inl (cI f3))), (a10, .inl (T 0, 9, .inl (cI f4))), (a11, .inl (T 0, 9, .inl (cI f5))), (a12, .inl (T 0, 9, .inl (cI f6))), (a16, .inl (T 0, 3, .inl (cI f7))), (a17, .inl (T 0, 9, .inl f8)), (a18, .inl (T 0, 9, .inl (cI f9))), (a19, .inl (T 0, 9, .inl (cI f10))), (a20, .inl (T 0, 3, .inl f11))] sz) := by
  refine e_I (by decide) (Nat.le_of_ble_eq_true rfl) ?_
  intro p e s m args below meth c A Q ls M hin w ret hl
  have hx := M.1.1
  have hb := M.1.2.1
  have hl : lv_has ls 8 [(0, .ref a0), (1, .ref a1), (2, .ref a2), (3, .int (iI x0))] := hl
  refine lv_aload_n hx hb dX0_liveLine_0 rfl (lv_at hl 0 rfl) ?_
  refine r_get (v := .ref a3) M w 0 0 clX0 rfl (by decide) G263 rfl rfl dX0_liveLine_1 ?_
  refine lv_iload_n hx hb dX0_liveLine_4 rfl (lv_at hl 3 rfl) ?_
  refine r_aald (v := va_rf (g0 (Int32.toNatClampNeg (iI x0)))) (C := "HookedCity$Word") M w 3 5 rfl rfl (iI_in (by omega) (by omega) (by decide)) rfl dX0_liveLine_5 ?_
  refine b_ref (g0_h _) (fun ee2 => ?_) (fun qq1 ee3 qq1_h => ?_)
  · refine lv_astoreN (lv' := [(4, .null), (0, .ref a0), (1, .ref a1), (2, .ref a2), (3, .int (iI x0))]) hx hb dX0_liveLine_6 hl (by decide) rfl (fun ls hl => ?_)
    refine lv_aload_n hx hb dX0_liveLine_8 rfl (lv_at hl 1 rfl) ?_
    refine r_get (v := .ref a4) M w 0 1 clX0 rfl (by decide) G264 rfl rfl dX0_liveLine_9 ?_
    refine lv_iload_n hx hb dX0_liveLine_12 rfl (lv_at hl 4 rfl) ?_
    refine r_iald (v := iI (f0 x0)) M w 4 rfl (iI_in (by omega) (by omega) (by decide)) (cI_at (by omega) (by omega)) dX0_liveLine_13 ?_
    have hh4 : (-1) ≤ (f0 x0) ∧ (f0 x0) ≤ 2 := f0_h x0
    refine lv_istore (lv' := [(5, .int (iI (f0 x0))), (4, .null), (0, .ref a0), (1, .ref a1), (2, .ref a2), (3, .int (iI x0))]) hx hb dX0_liveLine_14 hl (by decide) rfl (fun ls hl => ?_)
    refine lv_aload_n hx hb dX0_liveLine_16 rfl (lv_at hl 2 rfl) ?_
    refine r_get (v := .ref a5) M w 0 2 clX0 rfl (by decide) G265 rfl rfl dX0_liveLine_17 ?_
    refine lv_iload_n hx hb dX0_liveLine_20 rfl (lv_at hl 5 rfl) ?_
    refine r_iald (v := iI (f1 x0)) M w 5 rfl (iI_in (by omega) (by omega) (by decide)) (cI_at (by omega) (by omega)) dX0_liveLine_21 ?_
    have hh5 : (-2147483648) ≤ (f1 x0) ∧ (f1 x0) ≤ 2147483647 := f1_h x0
    refine lv_istore (lv' := [(6, .int (iI (f1 x0))), (5, .int (iI (f0 x0))), (4, .null), (0, .ref a0), (1, .ref a1), (2, .ref a2), (3, .int (iI x0))]) hx hb dX0_liveLine_22 hl (by decide) rfl (fun ls hl => ?_)
    refine lv_aloadN hx hb dX0_liveLine_24 (lv_at hl 2 rfl) ?_
    refine r_gets M w 11 rfl G1187 dX0_liveLine_26 ?_
    refine lv_acmp_ne (rx := none) (ry := (some (T (10 + 11)))) (tgt := 40) hx hb dX0_liveLine_29 (by decide) (fun _ => ?_) (fun c => absurd c (by simp))
    refine lv_aloadN hx hb dX0_liveLine_40 (lv_at hl 2 rfl) ?_
    refine r_gets M w 12 rfl G1189 dX0_liveLine_42 ?_
    refine lv_acmp_ne (rx := none) (ry := (some (T (10 + 12)))) (tgt := 87) hx hb dX0_liveLine_45 (by decide) (fun _ => ?_) (fun c => absurd c (by simp))
    refine lv_aloadN hx hb dX0_liveLine_87 (lv_at hl 2 rfl) ?_
    refine r_gets M w 13 rfl G1173 dX0_liveLine_89 ?_
    refine lv_acmp_ne (rx := none) (ry := (some (T (10 + 13)))) (tgt := 131) hx hb dX0_liveLine_92 (by decide) (fun _ => ?_) (fun c => absurd c (by simp))
    refine lv_aload_n hx hb dX0_liveLine_131 rfl (lv_at hl 5 rfl) ?_
    refine r_getN (v := .int r0) M w 2 4 clX7 rfl (by decide) N230 rfl rfl dX0_liveLine_132 ?_
    refine b_any (fun z6 z6_a z6_b => ?_)
    refine lv_iload hx hb dX0_liveLine_135 (lv_at hl 0 rfl) ?_
    refine r_iadd (v := _) M rfl dX0_liveLine_137 ?_
    refine b_any (fun z7 z7_a z7_b => ?_)
    refine lv_sipush (v := iI 400) hx hb dX0_liveLine_138 (by decide +kernel) ?_
    refine lv_icmp_le (tgt := 147) hx hb dX0_liveLine_141 (by decide) (fun c_8 => ?_) (fun c_8 => ?_)
    · replace c_8 := (iI_le (Int.le_trans (by decide) z7_a) (Int.le_trans z7_b (by decide)) (by decide) (by decide)).mp c_8
      refine lv_aload_n hx hb dX0_liveLine_147 rfl (lv_at hl 5 rfl) ?_
      refine lv_aload_n hx hb dX0_liveLine_148 rfl (lv_at hl 4 rfl) ?_
      refine lv_iload hx hb dX0_liveLine_149 (lv_at hl 0 rfl) ?_
      refine k_I (ce := 0) (sl := 0) (rest := []) (wr := [(a0, .inr (0, [.ref a3, .ref a4, .ref a5, .ref a6, .ref a7, .int (iI x1)])), (a3, .inl (T 5, 40, .inr (.inr (.inr (.inr g0))))), (a4, .inl (T 0, 40, .inl (cI f0))), (a5, .inl (T 0, 40, .inl (cI f1))), (a6, .inl (T 0, 40, .inl (cI f2))), (a9, .inl (T 0, 9, .inl (cI f3))), (a10, .inl (T 0, 9, .inl (cI f4))), (a11, .inl (T 0, 9, .inl (cI f5))), (a12, .inl (T 0, 9, .inl (cI f6))), (a16, .inl (T 0, 3, .inl (cI f7)))]) (r_V (f := 3) [2, 1, 12, 13, 14, 15] M w V_HookedCity_Book_130 G905 G906 (c234_X7_passDays l D T _ a2 a1 (f1 x0) a17 a18 a19 a20 r0 r1 r2 r3 a8 a9 a10 a11 a12 a13 a14 a15 a16 x2 x3 x4 x5 x6 x7 x8 x9 x10 f8 f9 f10 f11 (by omega) (by omega) x2_a x2_b x3_a x3_b x4_a x4_b x5_a x5_b x6_a x6_b x7_a x7_b x8_a x8_b x9_a x9_b x10_a x10_b f9_h f10_h) 2 clX7 rfl rfl (by decide) rfl hl.1 rfl (Nat.le_of_ble_eq_true rfl) dX0_liveLine_151 (by decide) (by decide) (by decide) (by decide)) w [2, 1, 12, 13, 14, 15] [0, 3, 4, 5, 6, 7, 8, 9, 10, 11] rfl rfl (by decide) (by decide) rfl rfl (fun v u H locs hp w => ?_)
      obtain ⟨z9, fr10, fr11, ff12, ff13, ff14, ff15⟩ := u
      have hv : iI z9 = v := hp.1
      subst hv
      have z9_a : (-2147483648) ≤ z9 := hp.2.1
      have z9_b : z9 ≤ 2147483647 := hp.2.2.1
      have ff13_h : rng (-1) 8 ff13 := hp.2.2.2.1
      have ff14_h : rng (-1) 8 ff14 := hp.2.2.2.2
      have w : WD D A s.heap [(a0, .inr (0, [.ref a3, .ref a4, .ref a5, .ref a6, .ref a7, .int (iI x1)])), (a3, .inl (T 5, 40, .inr (.inr (.inr (.inr g0))))), (a4, .inl (T 0, 40, .inl (cI f0))), (a5, .inl (T 0, 40, .inl (cI f1))), (a6, .inl (T 0, 40, .inl (cI f2))), (a9, .inl (T 0, 9, .inl (cI f3))), (a10, .inl (T 0, 9, .inl (cI f4))), (a11, .inl (T 0, 9, .inl (cI f5))), (a12, .inl (T 0, 9, .inl (cI f6))), (a16, .inl (T 0, 3, .inl (cI f7))), (a2, .inr (7, [.ref a17, .ref a18, .ref a19, .ref a20, .int fr10, .int r1, .int r2, .int fr11])), (a1, .inr (9, [.ref a8, .ref a9, .ref a10, .ref a11, .ref a12, .ref a13, .ref a14, .ref a15, .ref a16, .int (iI x2), .int (iI x3), .int (iI x4), .int (iI x5), .int (iI x6), .int (iI x7), .int (iI x8), .int (iI x9), .int (iI x10)])), (a17, .inl (T 0, 9, .inl ff12)), (a18, .inl (T 0, 9, .inl (cI ff13))), (a19, .inl (T 0, 9, .inl (cI ff14))), (a20, .inl (T 0, 3, .inl ff15))] H locs := w
      refine lv_pop hx hb dX0_liveLine_154 rfl ?_
      refine lv_iconst (v := iI 0) hx hb dX0_liveLine_155 (by decide +kernel) ?_
      exact ret _ (0, fr10, r1, r2, fr11, ff12, ff13, ff14, ff15) _ _ _ _ _ [0, 11, 10, 1, 2, 3, 4, 5, 6, 7, 8, 9, 12, 13, 14, 15] dX0_liveLine_156 ⟨rfl, (show (-2147483648) ≤ 0 from by decide), (show (0 : Int) ≤ 2147483647 from by decide), ff13_h, ff14_h⟩ w (by decide) rfl
    · replace c_8 : 400 < z7 := Int.not_le.mp (fun h => c_8 ((iI_le (Int.le_trans (by decide) z7_a) (Int.le_trans z7_b (by decide)) (by decide) (by decide)).mpr h))
      refine lv_bipush (v := iI 31) hx hb dX0_liveLine_144 (by decide +kernel) ?_
      exact ret _ (31, r0, r1, r2, r3, f8, f9, f10, f11) _ _ _ _ _ [0, 1, 2, 3, 4, 5, 6, 7, 8, 9, 10, 11, 12, 13, 14, 15] dX0_liveLine_146 ⟨rfl, (show (-2147483648) ≤ 31 from by decide), (show (31 : Int) ≤ 2147483647 from by decide), f9_h, f10_h⟩ w (by decide) rfl
  · refine lv_astore (lv' := [(4, .ref qq1), (0, .ref a0), (1, .ref a1), (2, .ref a2), (3, .int (iI x0))]) hx hb dX0_liveLine_6 hl (by decide) rfl (fun ls hl => ?_)
    refine lv_aload_n hx hb dX0_liveLine_8 rfl (lv_at hl 1 rfl) ?_
    refine r_get (v := .ref a4) M w 0 1 clX0 rfl (by decide) G264 rfl rfl dX0_liveLine_9 ?_
    refine lv_iload_n hx hb dX0_liveLine_12 rfl (lv_at hl 4 rfl) ?_
    refine r_iald (v := iI (f0 x0)) M w 4 rfl (iI_in (by omega) (by omega) (by decide)) (cI_at (by omega) (by omega)) dX0_liveLine_13 ?_
    have hh16 : (-1) ≤ (f0 x0) ∧ (f0 x0) ≤ 2 := f0_h x0
    refine lv_istore (lv' := [(5, .int (iI (f0 x0))), (4, .ref qq1), (0, .ref a0), (1, .ref a1), (2, .ref a2), (3, .int (iI x0))]) hx hb dX0_liveLine_14 hl (by decide) rfl (fun ls hl => ?_)
    refine lv_aload_n hx hb dX0_liveLine_16 rfl (lv_at hl 2 rfl) ?_
    refine r_get (v := .ref a5) M w 0 2 clX0 rfl (by decide) G265 rfl rfl dX0_liveLine_17 ?_
    refine lv_iload_n hx hb dX0_liveLine_20 rfl (lv_at hl 5 rfl) ?_
    refine r_iald (v := iI (f1 x0)) M w 5 rfl (iI_in (by omega) (by omega) (by decide)) (cI_at (by omega) (by omega)) dX0_liveLine_21 ?_
    have hh17 : (-2147483648) ≤ (f1 x0) ∧ (f1 x0) ≤ 2147483647 := f1_h x0
    refine lv_istore (lv' := [(6, .int (iI (f1 x0))), (5, .int (iI (f0 x0))), (4, .ref qq1), (0, .ref a0), (1, .ref a1), (2, .ref a2), (3, .int (iI x0))]) hx hb dX0_liveLine_22 hl (by decide) rfl (fun ls hl => ?_)
    refine lv_aload hx hb dX0_liveLine_24 (lv_at hl 2 rfl) ?_
    refine r_gets M w 11 rfl G1187 dX0_liveLine_26 ?_
    refine lv_acmp_ne (rx := (some qq1)) (ry := (some (T (10 + 11)))) (tgt := 40) hx hb dX0_liveLine_29 (by decide) (fun c_18 => ?_) (fun c_18 => ?_)
    · refine lv_aload hx hb dX0_liveLine_40 (lv_at hl 2 rfl) ?_
      refine r_gets M w 12 rfl G1189 dX0_liveLine_42 ?_
      refine lv_acmp_ne (rx := (some qq1)) (ry := (some (T (10 + 12)))) (tgt := 87) hx hb dX0_liveLine_45 (by decide) (fun c_19 => ?_) (fun c_19 => ?_)
      · refine lv_aload hx hb dX0_liveLine_87 (lv_at hl 2 rfl) ?_
        refine r_gets M w 13 rfl G1173 dX0_liveLine_89 ?_
        refine lv_acmp_ne (rx := (some qq1)) (ry := (some (T (10 + 13)))) (tgt := 131) hx hb dX0_liveLine_92 (by decide) (fun c_20 => ?_) (fun c_20 => ?_)
        · refine lv_aload_n hx hb dX0_liveLine_131 rfl (lv_at hl 5 rfl) ?_
          refine r_getN (v := .int r0) M w 2 4 clX7 rfl (by decide) N230 rfl rfl dX0_liveLine_132 ?_
          refine b_any (fun z21 z21_a z21_b => ?_)
          refine lv_iload hx hb dX0_liveLine_135 (lv_at hl 0 rfl) ?_
          refine r_iadd (v := _) M rfl dX0_liveLine_137 ?_
          refine b_any (fun z22 z22_a z22_b => ?_)
          refine lv_sipush (v := iI 400) hx hb dX0_liveLine_138 (by decide +kernel) ?_
          refine lv_icmp_le (tgt := 147) hx hb dX0_liveLine_141 (by decide) (fun c_23 => ?_) (fun c_23 => ?_)
          · replace c_23 := (iI_le (Int.le_trans (by decide) z22_a) (Int.le_trans z22_b (by decide)) (by decide) (by decide)).mp c_23
            refine lv_aload_n hx hb dX0_liveLine_147 rfl (lv_at hl 5 rfl) ?_
            refine lv_aload_n hx hb dX0_liveLine_148 rfl (lv_at hl 4 rfl) ?_
            refine lv_iload hx hb dX0_liveLine_149 (lv_at hl 0 rfl) ?_
            refine k_I (ce := 0) (sl := 0) (rest := []) (wr := [(a0, .inr (0, [.ref a3, .ref a4, .ref a5, .ref a6, .ref a7, .int (iI x1)])), (a3, .inl (T 5, 40, .inr (.inr (.inr (.inr g0))))), (a4, .inl (T 0, 40, .inl (cI f0))), (a5, .inl (T 0, 40, .inl (cI f1))), (a6, .inl (T 0, 40, .inl (cI f2))), (a9, .inl (T 0, 9, .inl (cI f3))), (a10, .inl (T 0, 9, .inl (cI f4))), (a11, .inl (T 0, 9, .inl (cI f5))), (a12, .inl (T 0, 9, .inl (cI f6))), (a16, .inl (T 0, 3, .inl (cI f7)))]) (r_V (f := 3) [2, 1, 12, 13, 14, 15] M w V_HookedCity_Book_130 G905 G906 (c234_X7_passDays l D T _ a2 a1 (f1 x0) a17 a18 a19 a20 r0 r1 r2 r3 a8 a9 a10 a11 a12 a13 a14 a15 a16 x2 x3 x4 x5 x6 x7 x8 x9 x10 f8 f9 f10 f11 (by omega) (by omega) x2_a x2_b x3_a x3_b x4_a x4_b x5_a x5_b x6_a x6_b x7_a x7_b x8_a x8_b x9_a x9_b x10_a x10_b f9_h f10_h) 2 clX7 rfl rfl (by decide) rfl hl.1 rfl (Nat.le_of_ble_eq_true rfl) dX0_liveLine_151 (by decide) (by decide) (by decide) (by decide)) w [2, 1, 12, 13, 14, 15] [0, 3, 4, 5, 6, 7, 8, 9, 10, 11] rfl rfl (by decide) (by decide) rfl rfl (fun v u H locs hp w => ?_)
            obtain ⟨z24, fr25, fr26, ff27, ff28, ff29, ff30⟩ := u
            have hv : iI z24 = v := hp.1
            subst hv
            have z24_a : (-2147483648) ≤ z24 := hp.2.1
            have z24_b : z24 ≤ 2147483647 := hp.2.2.1
            have ff28_h : rng (-1) 8 ff28 := hp.2.2.2.1
            have ff29_h : rng (-1) 8 ff29 := hp.2.2.2.2
            have w : WD D A s.heap [(a0, .inr (0, [.ref a3, .ref a4, .ref a5, .ref a6, .ref a7, .int (iI x1)])), (a3, .inl (T 5, 40, .inr (.inr (.inr (.inr g0))))), (a4, .inl (T 0, 40, .inl (cI f0))), (a5, .inl (T 0, 40, .inl (cI f1))), (a6, .inl (T 0, 40, .inl (cI f2))), (a9, .inl (T 0, 9, .inl (cI f3))), (a10, .inl (T 0, 9, .inl (cI f4))), (a11, .inl (T 0, 9, .inl (cI f5))), (a12, .inl (T 0, 9, .inl (cI f6))), (a16, .inl (T 0, 3, .inl (cI f7))), (a2, .inr (7, [.ref a17, .ref a18, .ref a19, .ref a20, .int fr25, .int r1, .int r2, .int fr26])), (a1, .inr (9, [.ref a8, .ref a9, .ref a10, .ref a11, .ref a12, .ref a13, .ref a14, .ref a15, .ref a16, .int (iI x2), .int (iI x3), .int (iI x4), .int (iI x5), .int (iI x6), .int (iI x7), .int (iI x8), .int (iI x9), .int (iI x10)])), (a17, .inl (T 0, 9, .inl ff27)), (a18, .inl (T 0, 9, .inl (cI ff28))), (a19, .inl (T 0, 9, .inl (cI ff29))), (a20, .inl (T 0, 3, .inl ff30))] H locs := w
            refine lv_pop hx hb dX0_liveLine_154 rfl ?_
            refine lv_iconst (v := iI 0) hx hb dX0_liveLine_155 (by decide +kernel) ?_
            exact ret _ (0, fr25, r1, r2, fr26, ff27, ff28, ff29, ff30) _ _ _ _ _ [0, 11, 10, 1, 2, 3, 4, 5, 6, 7, 8, 9, 12, 13, 14, 15] dX0_liveLine_156 ⟨rfl, (show (-2147483648) ≤ 0 from by decide), (show (0 : Int) ≤ 2147483647 from by decide), ff28_h, ff29_h⟩ w (by decide) rfl
          · replace c_23 : 400 < z22 := Int.not_le.mp (fun h => c_23 ((iI_le (Int.le_trans (by decide) z22_a) (Int.le_trans z22_b (by decide)) (by decide) (by decide)).mpr h))
            refine lv_bipush (v := iI 31) hx hb dX0_liveLine_144 (by decide +kernel) ?_
            exact ret _ (31, r0, r1, r2, r3, f8, f9, f10, f11) _ _ _ _ _ [0, 1, 2, 3, 4, 5, 6, 7, 8, 9, 10, 11, 12, 13, 14, 15] dX0_liveLine_146 ⟨rfl, (show (-2147483648) ≤ 31 from by decide), (show (31 : Int) ≤ 2147483647 from by decide), f9_h, f10_h⟩ w (by decide) rfl
        · have hb31 : 0 ≤ f1 x0 ∧ f1 x0 ≤ 8 := pp_b.2.2 (ee3.trans c_20)
          refine lv_aload_n hx hb dX0_liveLine_95 rfl (lv_at hl 5 rfl) ?_
          refine lv_aload_n hx hb dX0_liveLine_96 rfl (lv_at hl 4 rfl) ?_
          refine lv_iload hx hb dX0_liveLine_97 (lv_at hl 0 rfl) ?_
          refine k_I (ce := 0) (sl := 0) (rest := []) (wr := [(a0, .inr (0, [.ref a3, .ref a4, .ref a5, .ref a6, .ref a7, .int (iI x1)])), (a3, .inl (T 5, 40, .inr (.inr (.inr (.inr g0))))), (a4, .inl (T 0, 40, .inl (cI f0))), (a5, .inl (T 0, 40, .inl (cI f1))), (a6, .inl (T 0, 40, .inl (cI f2))), (a9, .inl (T 0, 9, .inl (cI f3))), (a10, .inl (T 0, 9, .inl (cI f4))), (a12, .inl (T 0, 9, .inl (cI f6))), (a16, .inl (T 0, 3, .inl (cI f7))), (a18, .inl (T 0, 9, .inl (cI f9))), (a19, .inl (T 0, 9, .inl (cI f10))), (a20, .inl (T 0, 3, .inl f11))]) (r_V (f := 0) [2, 1, 12, 9] M w V_HookedCity_Book_122 G893 G894 (c229_X7_whyNotSew l D T _ a2 a1 (f1 x0) a17 a18 a19 a20 r0 r1 r2 r3 a8 a9 a10 a11 a12 a13 a14 a15 a16 x2 x3 x4 x5 x6 x7 x8 x9 x10 f8 f5 (by omega) (by omega) x2_a x2_b x3_a x3_b x4_a x4_b x5_a x5_b x6_a x6_b x7_a x7_b x8_a x8_b x9_a x9_b x10_a x10_b f5_h) 2 clX7 rfl rfl (by decide) rfl hl.1 rfl (Nat.le_of_ble_eq_true rfl) dX0_liveLine_99 (by decide) (by decide) (by decide) (by decide)) w [2, 1, 12, 9] [0, 3, 4, 5, 6, 7, 8, 10, 11, 13, 14, 15] rfl rfl (by decide) (by decide) rfl rfl (fun v z32 H locs hp w => ?_)
          have hv : iI z32 = v := hp.1
          subst hv
          have z32_a : (-2147483648) ≤ z32 := hp.2.1
          have z32_b : z32 ≤ 2147483647 := hp.2.2
          have w : WD D A s.heap [(a0, .inr (0, [.ref a3, .ref a4, .ref a5, .ref a6, .ref a7, .int (iI x1)])), (a3, .inl (T 5, 40, .inr (.inr (.inr (.inr g0))))), (a4, .inl (T 0, 40, .inl (cI f0))), (a5, .inl (T 0, 40, .inl (cI f1))), (a6, .inl (T 0, 40, .inl (cI f2))), (a9, .inl (T 0, 9, .inl (cI f3))), (a10, .inl (T 0, 9, .inl (cI f4))), (a12, .inl (T 0, 9, .inl (cI f6))), (a16, .inl (T 0, 3, .inl (cI f7))), (a18, .inl (T 0, 9, .inl (cI f9))), (a19, .inl (T 0, 9, .inl (cI f10))), (a20, .inl (T 0, 3, .inl f11)), (a2, .inr (7, [.ref a17, .ref a18, .ref a19, .ref a20, .int r0, .int r1, .int r2, .int r3])), (a1, .inr (9, [.ref a8, .ref a9, .ref a10, .ref a11, .ref a12, .ref a13, .ref a14, .ref a15, .ref a16, .int (iI x2), .int (iI x3), .int (iI x4), .int (iI x5), .int (iI x6), .int (iI x7), .int (iI x8), .int (iI x9), .int (iI x10)])), (a17, .inl (T 0, 9, .inl f8)), (a11, .inl (T 0, 9, .inl (cI f5)))] H locs := w
          refine lv_istore (lv' := [(7, .int (iI z32)), (6, .int (iI (f1 x0))), (5, .int (iI (f0 x0))), (4, .ref qq1), (0, .ref a0), (1, .ref a1), (2, .ref a2), (3, .int (iI x0))]) hx hb dX0_liveLine_102 hl (by decide) rfl (fun ls hl => ?_)
          refine lv_iload hx hb dX0_liveLine_104 (lv_at hl 0 rfl) ?_
          refine lv_if_ne (tgt := 116) hx hb dX0_liveLine_106 (by decide) (fun c_33 => ?_) (fun c_33 => ?_)
          · replace c_33 : ¬ z32 = 0 := fun h => c_33 ((iz_eq (Int.le_trans (by decide) z32_a) (Int.le_trans z32_b (by decide))).mpr h)
            refine lv_iload hx hb dX0_liveLine_116 (lv_at hl 0 rfl) ?_
            refine lv_if_ne (tgt := 125) hx hb dX0_liveLine_118 (by decide) (fun c_34 => ?_) (fun c_34 => ?_)
            · replace c_34 : ¬ z32 = 0 := fun h => c_34 ((iz_eq (Int.le_trans (by decide) z32_a) (Int.le_trans z32_b (by decide))).mpr h)
              refine lv_bipush (v := iI 20) hx hb dX0_liveLine_125 (by decide +kernel) ?_
              refine lv_iload hx hb dX0_liveLine_127 (lv_at hl 0 rfl) ?_
              refine r_iadd (v := _) M rfl dX0_liveLine_129 ?_
              refine b_any (fun z35 z35_a z35_b => ?_)
              exact ret _ (z35, r0, r1, r2, r3, f8, f9, f10, f11) _ _ _ _ _ [0, 13, 12, 1, 2, 3, 4, 5, 6, 15, 7, 8, 14, 9, 10, 11] dX0_liveLine_130 ⟨rfl, z35_a, z35_b, f9_h, f10_h⟩ w (by decide) rfl
            · replace c_34 := (iz_eq (Int.le_trans (by decide) z32_a) (Int.le_trans z32_b (by decide))).mp c_34
              refine lv_iconst (v := iI 0) hx hb dX0_liveLine_121 (by decide +kernel) ?_
              refine lv_goto (tgt := 130) hx hb dX0_liveLine_122 (by decide) ?_
              exact ret _ (0, r0, r1, r2, r3, f8, f9, f10, f11) _ _ _ _ _ [0, 13, 12, 1, 2, 3, 4, 5, 6, 15, 7, 8, 14, 9, 10, 11] dX0_liveLine_130 ⟨rfl, (show (-2147483648) ≤ 0 from by decide), (show (0 : Int) ≤ 2147483647 from by decide), f9_h, f10_h⟩ w (by decide) rfl
          · replace c_33 := (iz_eq (Int.le_trans (by decide) z32_a) (Int.le_trans z32_b (by decide))).mp c_33
            refine lv_aload_n hx hb dX0_liveLine_109 rfl (lv_at hl 6 rfl) ?_
            refine lv_aload_n hx hb dX0_liveLine_110 rfl (lv_at hl 5 rfl) ?_
            refine lv_iload hx hb dX0_liveLine_111 (lv_at hl 1 rfl) ?_
            refine k_V (ce := 0) (sl := 0) (rest := []) (wr := [(a0, .inr (0, [.ref a3, .ref a4, .ref a5, .ref a6, .ref a7, .int (iI x1)])), (a3, .inl (T 5, 40, .inr (.inr (.inr (.inr g0))))), (a4, .inl (T 0, 40, .inl (cI f0))), (a5, .inl (T 0, 40, .inl (cI f1))), (a6, .inl (T 0, 40, .inl (cI f2))), (a9, .inl (T 0, 9, .inl (cI f3))), (a10, .inl (T 0, 9, .inl (cI f4))), (a12, .inl (T 0, 9, .inl (cI f6))), (a16, .inl (T 0, 3, .inl (cI f7))), (a18, .inl (T 0, 9, .inl (cI f9))), (a19, .inl (T 0, 9, .inl (cI f10))), (a20, .inl (T 0, 3, .inl f11))]) (r_V (f := 0) [12, 13, 14, 15] M w V_HookedCity_Book_126 G897 G898 (c230_X7_sew l D T _ a2 a1 (f1 x0) a17 a18 a19 a20 r0 r1 r2 r3 a8 a9 a10 a11 a12 a13 a14 a15 a16 x2 x3 x4 x5 x6 x7 x8 x9 x10 f8 f5 (by omega) (by omega) x2_a x2_b x3_a x3_b x4_a x4_b x5_a x5_b x6_a x6_b x7_a x7_b x8_a x8_b x9_a x9_b x10_a x10_b f5_h) 12 clX7 rfl rfl (by decide) rfl hl.1 rfl (Nat.le_of_ble_eq_true rfl) dX0_liveLine_113 (by decide) (by decide) (by decide) (by decide)) w [12, 13, 14, 15] [0, 1, 2, 3, 4, 5, 6, 7, 8, 9, 10, 11] rfl rfl (by decide) (by decide) rfl rfl (fun u H locs hp w => ?_)
            obtain ⟨fr36, ff37⟩ := u
            have w : WD D A s.heap [(a0, .inr (0, [.ref a3, .ref a4, .ref a5, .ref a6, .ref a7, .int (iI x1)])), (a3, .inl (T 5, 40, .inr (.inr (.inr (.inr g0))))), (a4, .inl (T 0, 40, .inl (cI f0))), (a5, .inl (T 0, 40, .inl (cI f1))), (a6, .inl (T 0, 40, .inl (cI f2))), (a9, .inl (T 0, 9, .inl (cI f3))), (a10, .inl (T 0, 9, .inl (cI f4))), (a12, .inl (T 0, 9, .inl (cI f6))), (a16, .inl (T 0, 3, .inl (cI f7))), (a18, .inl (T 0, 9, .inl (cI f9))), (a19, .inl (T 0, 9, .inl (cI f10))), (a20, .inl (T 0, 3, .inl f11)), (a2, .inr (7, [.ref a17, .ref a18, .ref a19, .ref a20, .int r0, .int fr36, .int r2, .int r3])), (a1, .inr (9, [.ref a8, .ref a9, .ref a10, .ref a11, .ref a12, .ref a13, .ref a14, .ref a15, .ref a16, .int (iI x2), .int (iI x3), .int (iI x4), .int (iI x5), .int (iI x6), .int (iI x7), .int (iI x8), .int (iI x9), .int (iI x10)])), (a17, .inl (T 0, 9, .inl ff37)), (a11, .inl (T 0, 9, .inl (cI f5)))] H locs := w
            refine lv_iload hx hb dX0_liveLine_116 (lv_at hl 0 rfl) ?_
            refine lv_if_ne (tgt := 125) hx hb dX0_liveLine_118 (by decide) (fun c_38 => ?_) (fun c_38 => ?_)
            · replace c_38 : ¬ z32 = 0 := fun h => c_38 ((iz_eq (Int.le_trans (by decide) z32_a) (Int.le_trans z32_b (by decide))).mpr h)
              exfalso; omega
            · replace c_38 := (iz_eq (Int.le_trans (by decide) z32_a) (Int.le_trans z32_b (by decide))).mp c_38
              refine lv_iconst (v := iI 0) hx hb dX0_liveLine_121 (by decide +kernel) ?_
              refine lv_goto (tgt := 130) hx hb dX0_liveLine_122 (by decide) ?_
              exact ret _ (0, r0, fr36, r2, r3, ff37, f9, f10, f11) _ _ _ _ _ [0, 13, 12, 1, 2, 3, 4, 5, 6, 15, 7, 8, 14, 9, 10, 11] dX0_liveLine_130 ⟨rfl, (show (-2147483648) ≤ 0 from by decide), (show (0 : Int) ≤ 2147483647 from by decide), f9_h, f10_h⟩ w (by decide) rfl
      · have hb39 : 0 ≤ f0 x0 ∧ 0 ≤ f1 x0 ∧ f1 x0 ≤ 8 := pp_b.2.1 (ee3.trans c_19)
        refine lv_aload_n hx hb dX0_liveLine_48 rfl (lv_at hl 5 rfl) ?_
        refine lv_aload_n hx hb dX0_liveLine_49 rfl (lv_at hl 4 rfl) ?_
        refine lv_iload hx hb dX0_liveLine_50 (lv_at hl 1 rfl) ?_
        refine lv_iload hx hb dX0_liveLine_52 (lv_at hl 0 rfl) ?_
        refine k_I (ce := 0) (sl := 0) (rest := []) (wr := [(a0, .inr (0, [.ref a3, .ref a4, .ref a5, .ref a6, .ref a7, .int (iI x1)])), (a3, .inl (T 5, 40, .inr (.inr (.inr (.inr g0))))), (a4, .inl (T 0, 40, .inl (cI f0))), (a5, .inl (T 0, 40, .inl (cI f1))), (a6, .inl (T 0, 40, .inl (cI f2))), (a9, .inl (T 0, 9, .inl (cI f3))), (a10, .inl (T 0, 9, .inl (cI f4))), (a11, .inl (T 0, 9, .inl (cI f5))), (a12, .inl (T 0, 9, .inl (cI f6))), (a17, .inl (T 0, 9, .inl f8)), (a19, .inl (T 0, 9, .inl (cI f10)))]) (r_V (f := 0) [2, 1, 13, 15, 11] M w V_HookedCity_Book_114 G877 G878 (c226_X7_whyNotLetGo l D T _ a2 a1 (f0 x0) (f1 x0) a17 a18 a19 a20 r0 r1 r2 r3 a8 a9 a10 a11 a12 a13 a14 a15 a16 x2 x3 x4 x5 x6 x7 x8 x9 x10 f9 f11 f7 (by omega) (by omega) (by omega) (by omega) x2_a x2_b x3_a x3_b x4_a x4_b x5_a x5_b x6_a x6_b x7_a x7_b x8_a x8_b x9_a x9_b x10_a x10_b f9_h f7_h) 2 clX7 rfl rfl (by decide) rfl hl.1 rfl (Nat.le_of_ble_eq_true rfl) dX0_liveLine_54 (by decide) (by decide) (by decide) (by decide)) w [2, 1, 13, 15, 11] [0, 3, 4, 5, 6, 7, 8, 9, 10, 12, 14] rfl rfl (by decide) (by decide) rfl rfl (fun v z40 H locs hp w => ?_)
        have hv : iI z40 = v := hp.1
        subst hv
        have z40_a : (-2147483648) ≤ z40 := hp.2.1
        have z40_b : z40 ≤ 2147483647 := hp.2.2
        have w : WD D A s.heap [(a0, .inr (0, [.ref a3, .ref a4, .ref a5, .ref a6, .ref a7, .int (iI x1)])), (a3, .inl (T 5, 40, .inr (.inr (.inr (.inr g0))))), (a4, .inl (T 0, 40, .inl (cI f0))), (a5, .inl (T 0, 40, .inl (cI f1))), (a6, .inl (T 0, 40, .inl (cI f2))), (a9, .inl (T 0, 9, .inl (cI f3))), (a10, .inl (T 0, 9, .inl (cI f4))), (a11, .inl (T 0, 9, .inl (cI f5))), (a12, .inl (T 0, 9, .inl (cI f6))), (a17, .inl (T 0, 9, .inl f8)), (a19, .inl (T 0, 9, .inl (cI f10))), (a2, .inr (7, [.ref a17, .ref a18, .ref a19, .ref a20, .int r0, .int r1, .int r2, .int r3])), (a1, .inr (9, [.ref a8, .ref a9, .ref a10, .ref a11, .ref a12, .ref a13, .ref a14, .ref a15, .ref a16, .int (iI x2), .int (iI x3), .int (iI x4), .int (iI x5), .int (iI x6), .int (iI x7), .int (iI x8), .int (iI x9), .int (iI x10)])), (a18, .inl (T 0, 9, .inl (cI f9))), (a20, .inl (T 0, 3, .inl f11)), (a16, .inl (T 0, 3, .inl (cI f7)))] H locs := w
        refine lv_istore (lv' := [(7, .int (iI z40)), (6, .int (iI (f1 x0))), (5, .int (iI (f0 x0))), (4, .ref qq1), (0, .ref a0), (1, .ref a1), (2, .ref a2), (3, .int (iI x0))]) hx hb dX0_liveLine_57 hl (by decide) rfl (fun ls hl => ?_)
        refine lv_iload hx hb dX0_liveLine_59 (lv_at hl 0 rfl) ?_
        refine lv_if_ne (tgt := 72) hx hb dX0_liveLine_61 (by decide) (fun c_41 => ?_) (fun c_41 => ?_)
        · replace c_41 : ¬ z40 = 0 := fun h => c_41 ((iz_eq (Int.le_trans (by decide) z40_a) (Int.le_trans z40_b (by decide))).mpr h)
          refine lv_iload hx hb dX0_liveLine_72 (lv_at hl 0 rfl) ?_
          refine lv_if_ne (tgt := 81) hx hb dX0_liveLine_74 (by decide) (fun c_42 => ?_) (fun c_42 => ?_)
          · replace c_42 : ¬ z40 = 0 := fun h => c_42 ((iz_eq (Int.le_trans (by decide) z40_a) (Int.le_trans z40_b (by decide))).mpr h)
            refine lv_bipush (v := iI 10) hx hb dX0_liveLine_81 (by decide +kernel) ?_
            refine lv_iload hx hb dX0_liveLine_83 (lv_at hl 0 rfl) ?_
            refine r_iadd (v := _) M rfl dX0_liveLine_85 ?_
            refine b_any (fun z43 z43_a z43_b => ?_)
            exact ret _ (z43, r0, r1, r2, r3, f8, f9, f10, f11) _ _ _ _ _ [0, 12, 11, 1, 2, 3, 4, 5, 6, 7, 8, 15, 9, 13, 10, 14] dX0_liveLine_86 ⟨rfl, z43_a, z43_b, f9_h, f10_h⟩ w (by decide) rfl
          · replace c_42 := (iz_eq (Int.le_trans (by decide) z40_a) (Int.le_trans z40_b (by decide))).mp c_42
            refine lv_iconst (v := iI 0) hx hb dX0_liveLine_77 (by decide +kernel) ?_
            refine lv_goto (tgt := 86) hx hb dX0_liveLine_78 (by decide) ?_
            exact ret _ (0, r0, r1, r2, r3, f8, f9, f10, f11) _ _ _ _ _ [0, 12, 11, 1, 2, 3, 4, 5, 6, 7, 8, 15, 9, 13, 10, 14] dX0_liveLine_86 ⟨rfl, (show (-2147483648) ≤ 0 from by decide), (show (0 : Int) ≤ 2147483647 from by decide), f9_h, f10_h⟩ w (by decide) rfl
        · replace c_41 := (iz_eq (Int.le_trans (by decide) z40_a) (Int.le_trans z40_b (by decide))).mp c_41
          refine lv_aload_n hx hb dX0_liveLine_64 rfl (lv_at hl 6 rfl) ?_
          refine lv_iload hx hb dX0_liveLine_65 (lv_at hl 2 rfl) ?_
          refine lv_iload hx hb dX0_liveLine_67 (lv_at hl 1 rfl) ?_
          refine k_V (ce := 0) (sl := 0) (rest := []) (wr := [(a0, .inr (0, [.ref a3, .ref a4, .ref a5, .ref a6, .ref a7, .int (iI x1)])), (a3, .inl (T 5, 40, .inr (.inr (.inr (.inr g0))))), (a4, .inl (T 0, 40, .inl (cI f0))), (a5, .inl (T 0, 40, .inl (cI f1))), (a6, .inl (T 0, 40, .inl (cI f2))), (a9, .inl (T 0, 9, .inl (cI f3))), (a10, .inl (T 0, 9, .inl (cI f4))), (a11, .inl (T 0, 9, .inl (cI f5))), (a12, .inl (T 0, 9, .inl (cI f6))), (a17, .inl (T 0, 9, .inl f8)), (a1, .inr (9, [.ref a8, .ref a9, .ref a10, .ref a11, .ref a12, .ref a13, .ref a14, .ref a15, .ref a16, .int (iI x2), .int (iI x3), .int (iI x4), .int (iI x5), .int (iI x6), .int (iI x7), .int (iI x8), .int (iI x9), .int (iI x10)])), (a16, .inl (T 0, 3, .inl (cI f7)))]) (r_V (f := 1) [11, 13, 10, 14] M w V_HookedCity_Book_118 G881 G882 (c228_X7_letGo l D T _ a2 (f0 x0) (f1 x0) a17 a18 a19 a20 r0 r1 r2 r3 f9 f10 f11 (by omega) (by omega) (by omega) (by omega) f9_h f10_h) 11 clX7 rfl rfl (by decide) rfl hl.1 rfl (Nat.le_of_ble_eq_true rfl) dX0_liveLine_69 (by decide) (by decide) (by decide) (by decide)) w [11, 13, 10, 14] [0, 1, 2, 3, 4, 5, 6, 7, 8, 9, 12, 15] rfl rfl (by decide) (by decide) rfl rfl (fun u H locs hp w => ?_)
          obtain ⟨ff44, ff45, ff46⟩ := u
          have ff44_h : rng (-1) 8 ff44 := hp.1
          have ff45_h : rng (-1) 8 ff45 := hp.2
          have w : WD D A s.heap [(a0, .inr (0, [.ref a3, .ref a4, .ref a5, .ref a6, .ref a7, .int (iI x1)])), (a3, .inl (T 5, 40, .inr (.inr (.inr (.inr g0))))), (a4, .inl (T 0, 40, .inl (cI f0))), (a5, .inl (T 0, 40, .inl (cI f1))), (a6, .inl (T 0, 40, .inl (cI f2))), (a9, .inl (T 0, 9, .inl (cI f3))), (a10, .inl (T 0, 9, .inl (cI f4))), (a11, .inl (T 0, 9, .inl (cI f5))), (a12, .inl (T 0, 9, .inl (cI f6))), (a17, .inl (T 0, 9, .inl f8)), (a1, .inr (9, [.ref a8, .ref a9, .ref a10, .ref a11, .ref a12, .ref a13, .ref a14, .ref a15, .ref a16, .int (iI x2), .int (iI x3), .int (iI x4), .int (iI x5), .int (iI x6), .int (iI x7), .int (iI x8), .int (iI x9), .int (iI x10)])), (a16, .inl (T 0, 3, .inl (cI f7))), (a2, .inr (7, [.ref a17, .ref a18, .ref a19, .ref a20, .int r0, .int r1, .int r2, .int r3])), (a18, .inl (T 0, 9, .inl (cI ff44))), (a19, .inl (T 0, 9, .inl (cI ff45))), (a20, .inl (T 0, 3, .inl ff46))] H locs := w
          refine lv_iload hx hb dX0_liveLine_72 (lv_at hl 0 rfl) ?_
          refine lv_if_ne (tgt := 81) hx hb dX0_liveLine_74 (by decide) (fun c_47 => ?_) (fun c_47 => ?_)
          · replace c_47 : ¬ z40 = 0 := fun h => c_47 ((iz_eq (Int.le_trans (by decide) z40_a) (Int.le_trans z40_b (by decide))).mpr h)
            exfalso; omega
          · replace c_47 := (iz_eq (Int.le_trans (by decide) z40_a) (Int.le_trans z40_b (by decide))).mp c_47
            refine lv_iconst (v := iI 0) hx hb dX0_liveLine_77 (by decide +kernel) ?_
            refine lv_goto (tgt := 86) hx hb dX0_liveLine_78 (by decide) ?_
            exact ret _ (0, r0, r1, r2, r3, f8, ff44, ff45, ff46) _ _ _ _ _ [0, 10, 12, 1, 2, 3, 4, 5, 6, 7, 8, 11, 9, 13, 14, 15] dX0_liveLine_86 ⟨rfl, (show (-2147483648) ≤ 0 from by decide), (show (0 : Int) ≤ 2147483647 from by decide), ff44_h, ff45_h⟩ w (by decide) rfl
    · have hb48 : 0 ≤ f0 x0 ∧ 0 ≤ f1 x0 ∧ f1 x0 ≤ 8 ∧ 0 ≤ f2 x0 := pp_b.1 (ee3.trans c_18)
      refine lv_aload_n hx hb dX0_liveLine_32 rfl (lv_at hl 3 rfl) ?_
      refine lv_aload_n hx hb dX0_liveLine_33 rfl (lv_at hl 4 rfl) ?_
      refine lv_aload_n hx hb dX0_liveLine_34 rfl (lv_at hl 5 rfl) ?_
      refine lv_iload_n hx hb dX0_liveLine_35 rfl (lv_at hl 6 rfl) ?_
      refine k_I (ce := 0) (sl := 0) (rest := []) (wr := [(a3, .inl (T 5, 40, .inr (.inr (.inr (.inr g0))))), (a11, .inl (T 0, 9, .inl (cI f5)))]) (r_V (f := 3) [0, 1, 2, 4, 5, 6, 7, 8, 10, 11, 12, 13, 14, 15] M w V_HookedCity_Book_111 G1212 G35 (c408_X0_liveButtons l D T _ a0 a1 a2 x0 a3 a4 a5 a6 a7 x1 a8 a9 a10 a11 a12 a13 a14 a15 a16 x2 x3 x4 x5 x6 x7 x8 x9 x10 a17 a18 a19 a20 r0 r1 r2 r3 f0 f1 f2 f3 f4 f6 f7 f8 f9 f10 f11 x0_a x0_b x1_a x1_b x2_a x2_b x3_a x3_b x4_a x4_b x5_a x5_b x6_a x6_b x7_a x7_b x8_a x8_b x9_a x9_b x10_a x10_b f0_h f1_h f2_h f3_h f4_h f6_h f7_h f9_h f10_h hb48) 0 clX0 rfl rfl (by decide) rfl hl.1 rfl (Nat.le_of_ble_eq_true rfl) dX0_liveLine_36 (by decide) (by decide) (by decide) (by decide)) w [0, 1, 2, 4, 5, 6, 7, 8, 10, 11, 12, 13, 14, 15] [3, 9] rfl rfl (by decide) (by decide) rfl rfl (fun v u H locs hp w => ?_)
      obtain ⟨z49, fr50, ff51, ff52, ff53⟩ := u
      have hv : iI z49 = v := hp.1
      subst hv
      have z49_a : (-2147483648) ≤ z49 := hp.2.1
      have z49_b : z49 ≤ 2147483647 := hp.2.2.1
      have ff51_h : rng (-1) 8 ff51 := hp.2.2.2.1
      have ff52_h : rng (-1) 8 ff52 := hp.2.2.2.2
      have w : WD D A s.heap [(a3, .inl (T 5, 40, .inr (.inr (.inr (.inr g0))))), (a11, .inl (T 0, 9, .inl (cI f5))), (a0, .inr (0, [.ref a3, .ref a4, .ref a5, .ref a6, .ref a7, .int (iI x1)])), (a1, .inr (9, [.ref a8, .ref a9, .ref a10, .ref a11, .ref a12, .ref a13, .ref a14, .ref a15, .ref a16, .int (iI x2), .int (iI x3), .int (iI x4), .int (iI x5), .int (iI x6), .int (iI x7), .int (iI x8), .int (iI x9), .int (iI x10)])), (a2, .inr (7, [.ref a17, .ref a18, .ref a19, .ref a20, .int r0, .int r1, .int fr50, .int r3])), (a4, .inl (T 0, 40, .inl (cI f0))), (a5, .inl (T 0, 40, .inl (cI f1))), (a6, .inl (T 0, 40, .inl (cI f2))), (a9, .inl (T 0, 9, .inl (cI f3))), (a10, .inl (T 0, 9, .inl (cI f4))), (a12, .inl (T 0, 9, .inl (cI f6))), (a16, .inl (T 0, 3, .inl (cI f7))), (a17, .inl (T 0, 9, .inl f8)), (a18, .inl (T 0, 9, .inl (cI ff51))), (a19, .inl (T 0, 9, .inl (cI ff52))), (a20, .inl (T 0, 3, .inl ff53))] H locs := w
      exact ret _ (z49, r0, r1, fr50, r3, f8, ff51, ff52, ff53) _ _ _ _ _ [2, 3, 4, 0, 5, 6, 7, 8, 9, 1, 10, 11, 12, 13, 14, 15] dX0_liveLine_39 ⟨rfl, z49_a, z49_b, ff51_h, ff52_h⟩ w (by decide) rfl
set_option maxRecDepth 100000 in
set_option maxHeartbeats 4000000 in
theorem c410_X0_live (l : Launch) (D : va_G) (T : Nat → ClassId) (sz : Nat) (a0 : Nat) (a1 : Nat) (a2 : Nat) (a3 : Nat) (a4 : Nat) (a5 : Nat) (a6 : Nat) (a7 : Nat) (x0 : Int) (a8 : Nat) (a9 : Nat) (a10 : Nat) (a11 : Nat) (a12 : Nat) (a13 : Nat) (a14 : Nat) (a15 : Nat) (a16 : Nat) (x1 : Int) (x2 : Int) (x3 : Int) (x4 : Int) (x5 : Int) (x6 : Int) (x7 : Int) (x8 : Int) (x9 : Int) (a17 : Nat) (a18 : Nat) (a19 : Nat) (a20 : Nat) (r0 : Int32) (r1 : Int32) (r2 : Int32) (r3 : Int32) (g0 : Nat → Option Nat) (f0 : Int → Int) (f1 : Int → Int) (f2 : Int → Int) (f3 : Nat → Int32) (f4 : Int → Int) (f5 : Int → Int) (f6 : Int → Int) (f7 : Int → Int) (f8 : Int → Int) (f9 : Nat → Int32) (f10 : Int → Int) (f11 : Int → Int) (f12 : Nat → Int32) (x0_a : 0 ≤ x0) (x0_b : x0 ≤ 40) (x1_a : 0 ≤ x1) (x1_b : x1 ≤ 9) (x2_a : 0 ≤ x2) (x2_b : x2 ≤ 3) (x3_a : 0 ≤ x3) (x3_b : x3 ≤ 900) (x4_a : (-2147483648) ≤ x4) (x4_b : x4 ≤ 2147483647) (x5_a : (-2147483648) ≤ x5) (x5_b : x5 ≤ 2147483647) (x6_a : (-2147483648) ≤ x6) (x6_b : x6 ≤ 2147483647) (x7_a : 0 ≤ x7) (x7_b : x7 ≤ 1) (x8_a : 0 ≤ x8) (x8_b : x8 ≤ 1) (x9_a : 0 ≤ x9) (x9_b : x9 ≤ 1) (g0_h : woks T g0) (f0_h : rng (-1) 2 f0) (f1_h : rng (-2147483648) 2147483647 f1) (f2_h : rng (-1) 8 f2) (f4_h : rng (-2147483648) 2147483647 f4) (f5_h : rng (-2147483648) 2147483647 f5) (f6_h : rng (-2147483648) 2147483647 f6) (f7_h : rng 0 511 f7) (f8_h : rng (-2147483648) 2147483647 f8) (f10_h : rng (-1) 8 f10) (f11_h : rng (-1) 8 f11) (pp_b : bkI T g0 f0 f1 f2 x0) : Met l yX0_live (Cond.code yX0_live cX0_live 5 (some .int) :: GW) (Rm 5 0 0) (cPre [.ref a0, .ref a1, .ref a2] D T [(a0, .inr (0, [.ref a3, .ref a4, .ref a5, .ref a6, .ref a7, .int (iI x0)])), (a1, .inr (9, [.ref a8, .ref a9, .ref a10, .ref a11, .ref a12, .ref a13, .ref a14, .ref a15, .ref a16, .int (iI x1), .int (iI x2), .int (iI x3), .int (iI x4), .int (iI x5), .int (iI x6), .int (iI x7), .int (iI x8), .int (iI x9)])), (a2, .inr (7, [.ref a17, .ref a18, .ref a19, .ref a20, .int r0, .int r1, .int r2, .int r3])), (a3, .inl (T 5, 40, .inr (.inr (.inr (.inr g0))))), (a4, .inl (T 0, 40, .inl (cI f0))), (a5, .inl (T 0, 40, .inl (cI f1))), (a6, .inl (T 0, 40, .inl (cI f2))), (a7, .inl (T 0, 4, .inl f3)), (a9, .inl (T 0, 9, .inl (cI f4))), (a10, .inl (T 0, 9, .inl (cI f5))), (a11, .inl (T 0, 9, .inl (cI f6))), (a12, .inl (T 0, 9, .inl (cI f7))), (a16, .inl (T 0, 3, .inl (cI f8))), (a17, .inl (T 0, 9, .inl f9)), (a18, .inl (T 0, 9, .inl (cI f10))), (a19, .inl (T 0, 9, .inl (cI f11))), (a20, .inl (T 0, 3, .inl f12))] sz) (qI D [(a0, .inr (0, [.ref a3, .ref a4, .ref a5, .ref a6, .ref a7, .int (iI x0)])), (a1, .inr (9, [.ref a8, .ref a9, .ref a10, .ref a11, .ref a12, .ref a13, .ref a14, .ref a15, .ref a16, .int (iI x1), .int (iI x2), .int (iI x3), .int (iI x4), .int (iI x5), .int (iI x6), .int (iI x7), .int (iI x8), .int (iI x9)])), (a2, .inr (7, [.ref a17, .ref a18, .ref a19, .ref a20, .int r0, .int r1, .int r2, .int r3])), (a3, .inl (T 5, 40, .inr (.inr (.inr (.inr g0))))), (a4, .inl (T 0, 40, .inl (cI f0))), (a5, .inl (T 0, 40, .inl (cI f1))), (a6, .inl (T 0, 40, .inl (cI f2))), (a7, .inl (T 0, 4, .inl f3)), (a9, .inl (T 0, 9, .inl (cI f4))), (a10, .inl (T 0, 9, .inl (cI f5))), (a11, .inl (T 0, 9, .inl (cI f6))), (a12, .inl (T 0, 9, .inl (cI f7))), (a16, .inl (T 0, 3, .inl (cI f8))), (a17, .inl (T 0, 9, .inl f9)), (a18, .inl (T 0, 9, .inl (cI f10))), (a19, .inl (T 0, 9, .inl (cI f11))), (a20, .inl (T 0, 3, .inl f12))] sz (fun (v : Int32) (u : Int × Int32 × Int32 × Int32 × Int32 × (Nat → Int32) × (Nat → Int32) × (Int → Int) × (Int → Int) × (Nat → Int32)) => iI u.1 = v ∧ (-2147483648) ≤ u.1 ∧ u.1 ≤ 2147483647 ∧ rng (-1) 8 u.2.2.2.2.2.2.2.1 ∧ rng (-1) 8 u.2.2.2.2.2.2.2.2.1) (fun u => [(a0, .inr (0, [.ref a3, .ref a4, .ref a5, .ref a6, .ref a7, .int (iI x0)])), (a1, .inr (9, [.ref a8, .ref a9, .ref a10, .ref a11, .ref a12, .ref a13, .ref a14, .ref a15, .ref a16, .int (iI x1), .int (iI x2), .int (iI x3), .int (iI x4), .int (iI x5), .int (iI x6), .int (iI x7), .int (iI x8), .int (iI x9)])), (a2, .inr (7, [.ref a17, .ref a18, .ref a19, .ref a20, .int u.2.1, .int u.2.2.1, .int u.2.2.2.1, .int u.2.2.2.2.1])), (a3, .inl (T 5, 40, .inr (.inr (.inr (.inr g0))))), (a4, .inl (T 0, 40, .inl (cI f0))), (a5, .inl (T 0, 40, .inl (cI f1))), (a6, .inl (T 0, 40, .inl (cI f2))), (a7, .inl (T 0, 4, .inl u.2.2.2.2.2.1)), (a9, .inl (T 0, 9, .inl (cI f4))), (a10, .inl (T 0, 9, .inl (cI f5))), (a11, .inl (T 0, 9, .inl (cI f6))), (a12, .inl (T 0, 9, .inl (cI f7))), (a16, .inl (T 0, 3, .inl (cI f8))), (a17, .inl (T 0, 9, .inl u.2.2.2.2.2.2.1)), (a18, .inl (T 0, 9, .inl (cI u.2.2.2.2.2.2.2.1))), (a19, .inl (T 0, 9, .inl (cI u.2.2.2.2.2.2.2.2.1))), (a20, .inl (T 0, 3, .inl u.2.2.2.2.2.2.2.2.2))])) 0 0 (va_A [(a0, .inr (0, [.ref a3, .ref a4, .ref a5, .ref a6, .ref a7, .int (iI x0)])), (a1, .inr (9, [.ref a8, .ref a9, .ref a10, .ref a11, .ref a12, .ref a13, .ref a14, .ref a15, .ref a16, .int (iI x1), .int (iI x2), .int (iI x3), .int (iI x4), .int (iI x5), .int (iI x6), .int (iI x7), .int (iI x8), .int (iI x9)])), (a2, .inr (7, [.ref a17, .ref a18, .ref a19, .ref a20, .int r0, .int r1, .int r2, .int r3])), (a3, .inl (T 5, 40, .inr (.inr (.inr (.inr g0))))), (a4, .inl (T 0, 40, .inl (cI f0))), (a5, .inl (T 0, 40, .inl (cI f1))), (a6, .inl (T 0, 40, .inl (cI f2))), (a7, .inl (T 0, 4, .inl f3)), (a9, .inl (T 0, 9, .inl (cI f4))), (a10, .inl (T 0, 9, .inl (cI f5))), (a11, .inl (T 0, 9, .inl (cI f6))), (a12, .inl (T 0, 9, .inl (cI f7))), (a16, .inl (T 0, 3, .inl (cI f8))), (a17, .inl (T 0, 9, .inl f9)), (a18, .inl (T 0, 9, .inl (cI f10))), (a19, .inl (T 0, 9, .inl (cI f11))), (a20, .inl (T 0, 3, .inl f12))] sz) := by
  refine e_I (by decide) (Nat.le_of_ble_eq_true rfl) ?_
  intro p e s m args below meth c A Q ls M hin w ret hl
  have hx := M.1.1
  have hb := M.1.2.1
  have hl : lv_has ls 5 [(0, .ref a0), (1, .ref a1), (2, .ref a2)] := hl
  refine lv_iconst (v := iI 0) hx hb dX0_live_0 (by decide +kernel) ?_
  refine lv_istore_n (lv' := [(3, .int (iI 0)), (0, .ref a0), (1, .ref a1), (2, .ref a2)]) hx hb dX0_live_1 rfl hl (by decide) rfl (fun ls hl => ?_)
  refine lv_iconst (v := iI 0) hx hb dX0_live_2 (by decide +kernel) ?_
  refine lv_istore (lv' := [(4, .int (iI 0)), (3, .int (iI 0)), (0, .ref a0), (1, .ref a1), (2, .ref a2)]) hx hb dX0_live_3 hl (by decide) rfl (fun ls hl => ?_)
  have loop1 : ∀ (k1 : Nat) (ff1 : Nat → Int32) (ff2 : Int → Int) (ff3 : Int → Int) (fr4 : Int32) (fr5 : Int32) (fr6 : Int32) (fr7 : Int32) (ff8 : Nat → Int32) (z9 : Int) (z10 : Int) (H : Heap) (locs : List Loc) (ls : Array Slot), rng (-1) 8 ff2 → rng (-1) 8 ff3 → 0 ≤ z9 → z9 ≤ 40 → (-2147483648) ≤ z10 → z10 ≤ 2147483647 → ((x0 - z9) : Int).toNat < k1 → WD D A s.heap [(a0, .inr (0, [.ref a3, .ref a4, .ref a5, .ref a6, .ref a7, .int (iI x0)])), (a1, .inr (9, [.ref a8, .ref a9, .ref a10, .ref a11, .ref a12, .ref a13, .ref a14, .ref a15, .ref a16, .int (iI x1), .int (iI x2), .int (iI x3), .int (iI x4), .int (iI x5), .int (iI x6), .int (iI x7), .int (iI x8), .int (iI x9)])), (a2, .inr (7, [.ref a17, .ref a18, .ref a19, .ref a20, .int fr4, .int fr5, .int fr6, .int fr7])), (a3, .inl (T 5, 40, .inr (.inr (.inr (.inr g0))))), (a4, .inl (T 0, 40, .inl (cI f0))), (a5, .inl (T 0, 40, .inl (cI f1))), (a6, .inl (T 0, 40, .inl (cI f2))), (a7, .inl (T 0, 4, .inl f3)), (a9, .inl (T 0, 9, .inl (cI f4))), (a10, .inl (T 0, 9, .inl (cI f5))), (a11, .inl (T 0, 9, .inl (cI f6))), (a12, .inl (T 0, 9, .inl (cI f7))), (a16, .inl (T 0, 3, .inl (cI f8))), (a17, .inl (T 0, 9, .inl ff1)), (a18, .inl (T 0, 9, .inl (cI ff2))), (a19, .inl (T 0, 9, .inl (cI ff3))), (a20, .inl (T 0, 3, .inl ff8))] H locs → lv_has ls 5 [(4, .int (iI z9)), (3, .int (iI z10)), (0, .ref a0), (1, .ref a1), (2, .ref a2)] → W p l e (Rm 5 0 0) s m args below meth c H locs 0 0 Q (F0 m 5 ls []) := by
    intro k1
    induction k1 with
    | zero => intro ff1 ff2 ff3 fr4 fr5 fr6 fr7 ff8 z9 z10 H locs ls ff2_h ff3_h z9_a z9_b z10_a z10_b hm; exact absurd hm (Nat.not_lt_zero _)
    | succ k1 ih1 =>
      intro ff1 ff2 ff3 fr4 fr5 fr6 fr7 ff8 z9 z10 H locs ls ff2_h ff3_h z9_a z9_b z10_a z10_b hm1 w hl
      refine lv_iload hx hb dX0_live_5 (lv_at hl 0 rfl) ?_
      refine lv_aload_n hx hb dX0_live_7 rfl (lv_at hl 2 rfl) ?_
      refine r_get (v := .int (iI x0)) M w 0 5 clX0 rfl (by decide) G269 rfl rfl dX0_live_8 ?_
      refine lv_icmp_ge (tgt := 36) hx hb dX0_live_11 (by decide) (fun c_11 => ?_) (fun c_11 => ?_)
      · replace c_11 := (iI_le (Int.le_trans (by decide) x0_a) (Int.le_trans x0_b (by decide)) (Int.le_trans (by decide) z9_a) (Int.le_trans z9_b (by decide))).mp c_11
        refine lv_aload_n hx hb dX0_live_36 rfl (lv_at hl 2 rfl) ?_
        refine r_get (v := .ref a7) M w 0 4 clX0 rfl (by decide) G267 rfl rfl dX0_live_37 ?_
        refine lv_iconst (v := iI 0) hx hb dX0_live_40 (by decide +kernel) ?_
        refine lv_iload_n hx hb dX0_live_41 rfl (lv_at hl 1 rfl) ?_
        refine r_iast (ws' := [(a0, .inr (0, [.ref a3, .ref a4, .ref a5, .ref a6, .ref a7, .int (iI x0)])), (a1, .inr (9, [.ref a8, .ref a9, .ref a10, .ref a11, .ref a12, .ref a13, .ref a14, .ref a15, .ref a16, .int (iI x1), .int (iI x2), .int (iI x3), .int (iI x4), .int (iI x5), .int (iI x6), .int (iI x7), .int (iI x8), .int (iI x9)])), (a2, .inr (7, [.ref a17, .ref a18, .ref a19, .ref a20, .int fr4, .int fr5, .int fr6, .int fr7])), (a3, .inl (T 5, 40, .inr (.inr (.inr (.inr g0))))), (a4, .inl (T 0, 40, .inl (cI f0))), (a5, .inl (T 0, 40, .inl (cI f1))), (a6, .inl (T 0, 40, .inl (cI f2))), (a7, .inl (T 0, 4, .inl (upd f3 (Int32.toNatClampNeg (iI 0)) (iI z10)))), (a9, .inl (T 0, 9, .inl (cI f4))), (a10, .inl (T 0, 9, .inl (cI f5))), (a11, .inl (T 0, 9, .inl (cI f6))), (a12, .inl (T 0, 9, .inl (cI f7))), (a16, .inl (T 0, 3, .inl (cI f8))), (a17, .inl (T 0, 9, .inl ff1)), (a18, .inl (T 0, 9, .inl (cI ff2))), (a19, .inl (T 0, 9, .inl (cI ff3))), (a20, .inl (T 0, 3, .inl ff8))]) M w 7 rfl (iI_in (by decide) (by decide) (by decide)) rfl dX0_live_42 (fun H locs w => ?_)
        refine lv_aload_n hx hb dX0_live_43 rfl (lv_at hl 2 rfl) ?_
        refine r_get (v := .ref a7) M w 0 4 clX0 rfl (by decide) G267 rfl rfl dX0_live_44 ?_
        refine lv_iconst (v := iI 1) hx hb dX0_live_47 (by decide +kernel) ?_
        refine lv_iload hx hb dX0_live_48 (lv_at hl 0 rfl) ?_
        refine r_iast (ws' := [(a0, .inr (0, [.ref a3, .ref a4, .ref a5, .ref a6, .ref a7, .int (iI x0)])), (a1, .inr (9, [.ref a8, .ref a9, .ref a10, .ref a11, .ref a12, .ref a13, .ref a14, .ref a15, .ref a16, .int (iI x1), .int (iI x2), .int (iI x3), .int (iI x4), .int (iI x5), .int (iI x6), .int (iI x7), .int (iI x8), .int (iI x9)])), (a2, .inr (7, [.ref a17, .ref a18, .ref a19, .ref a20, .int fr4, .int fr5, .int fr6, .int fr7])), (a3, .inl (T 5, 40, .inr (.inr (.inr (.inr g0))))), (a4, .inl (T 0, 40, .inl (cI f0))), (a5, .inl (T 0, 40, .inl (cI f1))), (a6, .inl (T 0, 40, .inl (cI f2))), (a7, .inl (T 0, 4, .inl (upd (upd f3 (Int32.toNatClampNeg (iI 0)) (iI z10)) (Int32.toNatClampNeg (iI 1)) (iI z9)))), (a9, .inl (T 0, 9, .inl (cI f4))), (a10, .inl (T 0, 9, .inl (cI f5))), (a11, .inl (T 0, 9, .inl (cI f6))), (a12, .inl (T 0, 9, .inl (cI f7))), (a16, .inl (T 0, 3, .inl (cI f8))), (a17, .inl (T 0, 9, .inl ff1)), (a18, .inl (T 0, 9, .inl (cI ff2))), (a19, .inl (T 0, 9, .inl (cI ff3))), (a20, .inl (T 0, 3, .inl ff8))]) M w 7 rfl (iI_in (by decide) (by decide) (by decide)) rfl dX0_live_50 (fun H locs w => ?_)
        refine lv_aload_n hx hb dX0_live_51 rfl (lv_at hl 2 rfl) ?_
        refine r_get (v := .ref a7) M w 0 4 clX0 rfl (by decide) G267 rfl rfl dX0_live_52 ?_
        refine lv_iconst (v := iI 2) hx hb dX0_live_55 (by decide +kernel) ?_
        refine lv_aload_n hx hb dX0_live_56 rfl (lv_at hl 4 rfl) ?_
        refine r_getN (v := .int fr4) M w 2 4 clX7 rfl (by decide) N230 rfl rfl dX0_live_57 ?_
        refine b_any (fun z12 z12_a z12_b => ?_)
        refine r_iast (ws' := [(a0, .inr (0, [.ref a3, .ref a4, .ref a5, .ref a6, .ref a7, .int (iI x0)])), (a1, .inr (9, [.ref a8, .ref a9, .ref a10, .ref a11, .ref a12, .ref a13, .ref a14, .ref a15, .ref a16, .int (iI x1), .int (iI x2), .int (iI x3), .int (iI x4), .int (iI x5), .int (iI x6), .int (iI x7), .int (iI x8), .int (iI x9)])), (a2, .inr (7, [.ref a17, .ref a18, .ref a19, .ref a20, .int fr4, .int fr5, .int fr6, .int fr7])), (a3, .inl (T 5, 40, .inr (.inr (.inr (.inr g0))))), (a4, .inl (T 0, 40, .inl (cI f0))), (a5, .inl (T 0, 40, .inl (cI f1))), (a6, .inl (T 0, 40, .inl (cI f2))), (a7, .inl (T 0, 4, .inl (upd (upd (upd f3 (Int32.toNatClampNeg (iI 0)) (iI z10)) (Int32.toNatClampNeg (iI 1)) (iI z9)) (Int32.toNatClampNeg (iI 2)) (iI z12)))), (a9, .inl (T 0, 9, .inl (cI f4))), (a10, .inl (T 0, 9, .inl (cI f5))), (a11, .inl (T 0, 9, .inl (cI f6))), (a12, .inl (T 0, 9, .inl (cI f7))), (a16, .inl (T 0, 3, .inl (cI f8))), (a17, .inl (T 0, 9, .inl ff1)), (a18, .inl (T 0, 9, .inl (cI ff2))), (a19, .inl (T 0, 9, .inl (cI ff3))), (a20, .inl (T 0, 3, .inl ff8))]) M w 7 rfl (iI_in (by decide) (by decide) (by decide)) rfl dX0_live_60 (fun H locs w => ?_)
        refine lv_aload_n hx hb dX0_live_61 rfl (lv_at hl 2 rfl) ?_
        refine r_get (v := .ref a7) M w 0 4 clX0 rfl (by decide) G267 rfl rfl dX0_live_62 ?_
        refine lv_iconst (v := iI 3) hx hb dX0_live_65 (by decide +kernel) ?_
        refine lv_aload_n hx hb dX0_live_66 rfl (lv_at hl 4 rfl) ?_
        refine lv_aload_n hx hb dX0_live_67 rfl (lv_at hl 3 rfl) ?_
        refine k_I (ce := 0) (sl := 0) (rest := [.int (iI 3), .ref a7]) (wr := [(a0, .inr (0, [.ref a3, .ref a4, .ref a5, .ref a6, .ref a7, .int (iI x0)])), (a3, .inl (T 5, 40, .inr (.inr (.inr (.inr g0))))), (a4, .inl (T 0, 40, .inl (cI f0))), (a5, .inl (T 0, 40, .inl (cI f1))), (a6, .inl (T 0, 40, .inl (cI f2))), (a7, .inl (T 0, 4, .inl (upd (upd (upd f3 (Int32.toNatClampNeg (iI 0)) (iI z10)) (Int32.toNatClampNeg (iI 1)) (iI z9)) (Int32.toNatClampNeg (iI 2)) (iI z12)))), (a9, .inl (T 0, 9, .inl (cI f4))), (a10, .inl (T 0, 9, .inl (cI f5))), (a11, .inl (T 0, 9, .inl (cI f6))), (a12, .inl (T 0, 9, .inl (cI f7))), (a16, .inl (T 0, 3, .inl (cI f8))), (a17, .inl (T 0, 9, .inl ff1)), (a19, .inl (T 0, 9, .inl (cI ff3))), (a20, .inl (T 0, 3, .inl ff8))]) (r_V (f := 0) [2, 1, 14] M w V_HookedCity_Book_107 G820 G821 (c244_X7_openOnes l D T _ a2 a1 a17 a18 a19 a20 fr4 fr5 fr6 fr7 a8 a9 a10 a11 a12 a13 a14 a15 a16 x1 x2 x3 x4 x5 x6 x7 x8 x9 ff2 x1_a x1_b x2_a x2_b x3_a x3_b x4_a x4_b x5_a x5_b x6_a x6_b x7_a x7_b x8_a x8_b x9_a x9_b ff2_h) 2 clX7 rfl rfl (by decide) rfl hl.1 rfl (Nat.le_of_ble_eq_true rfl) dX0_live_68 (by decide) (by decide) (by decide) (by decide)) w [2, 1, 14] [0, 3, 4, 5, 6, 7, 8, 9, 10, 11, 12, 13, 15, 16] rfl rfl (by decide) (by decide) rfl rfl (fun v z13 H locs hp w => ?_)
        have hv : iI z13 = v := hp.1
        subst hv
        have z13_a : (-2147483648) ≤ z13 := hp.2.1
        have z13_b : z13 ≤ 2147483647 := hp.2.2
        have w : WD D A s.heap [(a0, .inr (0, [.ref a3, .ref a4, .ref a5, .ref a6, .ref a7, .int (iI x0)])), (a3, .inl (T 5, 40, .inr (.inr (.inr (.inr g0))))), (a4, .inl (T 0, 40, .inl (cI f0))), (a5, .inl (T 0, 40, .inl (cI f1))), (a6, .inl (T 0, 40, .inl (cI f2))), (a7, .inl (T 0, 4, .inl (upd (upd (upd f3 (Int32.toNatClampNeg (iI 0)) (iI z10)) (Int32.toNatClampNeg (iI 1)) (iI z9)) (Int32.toNatClampNeg (iI 2)) (iI z12)))), (a9, .inl (T 0, 9, .inl (cI f4))), (a10, .inl (T 0, 9, .inl (cI f5))), (a11, .inl (T 0, 9, .inl (cI f6))), (a12, .inl (T 0, 9, .inl (cI f7))), (a16, .inl (T 0, 3, .inl (cI f8))), (a17, .inl (T 0, 9, .inl ff1)), (a19, .inl (T 0, 9, .inl (cI ff3))), (a20, .inl (T 0, 3, .inl ff8)), (a2, .inr (7, [.ref a17, .ref a18, .ref a19, .ref a20, .int fr4, .int fr5, .int fr6, .int fr7])), (a1, .inr (9, [.ref a8, .ref a9, .ref a10, .ref a11, .ref a12, .ref a13, .ref a14, .ref a15, .ref a16, .int (iI x1), .int (iI x2), .int (iI x3), .int (iI x4), .int (iI x5), .int (iI x6), .int (iI x7), .int (iI x8), .int (iI x9)])), (a18, .inl (T 0, 9, .inl (cI ff2)))] H locs := w
        refine r_iast (ws' := [(a0, .inr (0, [.ref a3, .ref a4, .ref a5, .ref a6, .ref a7, .int (iI x0)])), (a3, .inl (T 5, 40, .inr (.inr (.inr (.inr g0))))), (a4, .inl (T 0, 40, .inl (cI f0))), (a5, .inl (T 0, 40, .inl (cI f1))), (a6, .inl (T 0, 40, .inl (cI f2))), (a7, .inl (T 0, 4, .inl (upd (upd (upd (upd f3 (Int32.toNatClampNeg (iI 0)) (iI z10)) (Int32.toNatClampNeg (iI 1)) (iI z9)) (Int32.toNatClampNeg (iI 2)) (iI z12)) (Int32.toNatClampNeg (iI 3)) (iI z13)))), (a9, .inl (T 0, 9, .inl (cI f4))), (a10, .inl (T 0, 9, .inl (cI f5))), (a11, .inl (T 0, 9, .inl (cI f6))), (a12, .inl (T 0, 9, .inl (cI f7))), (a16, .inl (T 0, 3, .inl (cI f8))), (a17, .inl (T 0, 9, .inl ff1)), (a19, .inl (T 0, 9, .inl (cI ff3))), (a20, .inl (T 0, 3, .inl ff8)), (a2, .inr (7, [.ref a17, .ref a18, .ref a19, .ref a20, .int fr4, .int fr5, .int fr6, .int fr7])), (a1, .inr (9, [.ref a8, .ref a9, .ref a10, .ref a11, .ref a12, .ref a13, .ref a14, .ref a15, .ref a16, .int (iI x1), .int (iI x2), .int (iI x3), .int (iI x4), .int (iI x5), .int (iI x6), .int (iI x7), .int (iI x8), .int (iI x9)])), (a18, .inl (T 0, 9, .inl (cI ff2)))]) M w 5 rfl (iI_in (by decide) (by decide) (by decide)) rfl dX0_live_71 (fun H locs w => ?_)
        refine lv_iload_n hx hb dX0_live_72 rfl (lv_at hl 1 rfl) ?_
        refine lv_if_ne (tgt := 80) hx hb dX0_live_73 (by decide) (fun c_14 => ?_) (fun c_14 => ?_)
        · replace c_14 : ¬ z10 = 0 := fun h => c_14 ((iz_eq (Int.le_trans (by decide) z10_a) (Int.le_trans z10_b (by decide))).mpr h)
          refine lv_iload hx hb dX0_live_80 (lv_at hl 0 rfl) ?_
          exact ret _ (z9, fr4, fr5, fr6, fr7, (upd (upd (upd (upd f3 (Int32.toNatClampNeg (iI 0)) (iI z10)) (Int32.toNatClampNeg (iI 1)) (iI z9)) (Int32.toNatClampNeg (iI 2)) (iI z12)) (Int32.toNatClampNeg (iI 3)) (iI z13)), ff1, ff2, ff3, ff8) _ _ _ _ _ [0, 15, 14, 1, 2, 3, 4, 5, 6, 7, 8, 9, 10, 11, 16, 12, 13] dX0_live_82 ⟨rfl, (show (-2147483648) ≤ z9 from by omega), (show z9 ≤ 2147483647 from by omega), ff2_h, ff3_h⟩ w (by decide) rfl
        · replace c_14 := (iz_eq (Int.le_trans (by decide) z10_a) (Int.le_trans z10_b (by decide))).mp c_14
          refine lv_iconst (v := iI (-1)) hx hb dX0_live_76 (by decide +kernel) ?_
          refine lv_goto (tgt := 82) hx hb dX0_live_77 (by decide) ?_
          exact ret _ ((-1), fr4, fr5, fr6, fr7, (upd (upd (upd (upd f3 (Int32.toNatClampNeg (iI 0)) (iI z10)) (Int32.toNatClampNeg (iI 1)) (iI z9)) (Int32.toNatClampNeg (iI 2)) (iI z12)) (Int32.toNatClampNeg (iI 3)) (iI z13)), ff1, ff2, ff3, ff8) _ _ _ _ _ [0, 15, 14, 1, 2, 3, 4, 5, 6, 7, 8, 9, 10, 11, 16, 12, 13] dX0_live_82 ⟨rfl, (show (-2147483648) ≤ (-1) from by decide), (show ((-1) : Int) ≤ 2147483647 from by decide), ff2_h, ff3_h⟩ w (by decide) rfl
      · replace c_11 : z9 < x0 := Int.not_le.mp (fun h => c_11 ((iI_le (Int.le_trans (by decide) x0_a) (Int.le_trans x0_b (by decide)) (Int.le_trans (by decide) z9_a) (Int.le_trans z9_b (by decide))).mpr h))
        refine lv_aload_n hx hb dX0_live_14 rfl (lv_at hl 2 rfl) ?_
        refine lv_aload_n hx hb dX0_live_15 rfl (lv_at hl 3 rfl) ?_
        refine lv_aload_n hx hb dX0_live_16 rfl (lv_at hl 4 rfl) ?_
        refine lv_iload hx hb dX0_live_17 (lv_at hl 0 rfl) ?_
        refine k_I (ce := 0) (sl := 0) (rest := []) (wr := [(a7, .inl (T 0, 4, .inl f3))]) (r_V (f := 4) [0, 1, 2, 3, 4, 5, 6, 8, 9, 10, 11, 12, 13, 14, 15, 16] M w V_HookedCity_Book_98 G1208 G34 (c409_X0_liveLine l D T _ a0 a1 a2 z9 a3 a4 a5 a6 a7 x0 a8 a9 a10 a11 a12 a13 a14 a15 a16 x1 x2 x3 x4 x5 x6 x7 x8 x9 a17 a18 a19 a20 fr4 fr5 fr6 fr7 g0 f0 f1 f2 f4 f5 f6 f7 f8 ff1 ff2 ff3 ff8 (by omega) (by omega) x0_a x0_b x1_a x1_b x2_a x2_b x3_a x3_b x4_a x4_b x5_a x5_b x6_a x6_b x7_a x7_b x8_a x8_b x9_a x9_b g0_h f0_h f1_h f2_h f4_h f5_h f6_h f7_h f8_h ff2_h ff3_h (bkI_at pp_b (by omega) (by omega) (by omega))) 0 clX0 rfl rfl (by decide) rfl hl.1 rfl (Nat.le_of_ble_eq_true rfl) dX0_live_19 (by decide) (by decide) (by decide) (by decide)) w [0, 1, 2, 3, 4, 5, 6, 8, 9, 10, 11, 12, 13, 14, 15, 16] [7] rfl rfl (by decide) (by decide) rfl rfl (fun v u H locs hp w => ?_)
        obtain ⟨z15, fr16, fr17, fr18, fr19, ff20, ff21, ff22, ff23⟩ := u
        have hv : iI z15 = v := hp.1
        subst hv
        have z15_a : (-2147483648) ≤ z15 := hp.2.1
        have z15_b : z15 ≤ 2147483647 := hp.2.2.1
        have ff21_h : rng (-1) 8 ff21 := hp.2.2.2.1
        have ff22_h : rng (-1) 8 ff22 := hp.2.2.2.2
        have w : WD D A s.heap [(a7, .inl (T 0, 4, .inl f3)), (a0, .inr (0, [.ref a3, .ref a4, .ref a5, .ref a6, .ref a7, .int (iI x0)])), (a1, .inr (9, [.ref a8, .ref a9, .ref a10, .ref a11, .ref a12, .ref a13, .ref a14, .ref a15, .ref a16, .int (iI x1), .int (iI x2), .int (iI x3), .int (iI x4), .int (iI x5), .int (iI x6), .int (iI x7), .int (iI x8), .int (iI x9)])), (a2, .inr (7, [.ref a17, .ref a18, .ref a19, .ref a20, .int fr16, .int fr17, .int fr18, .int fr19])), (a3, .inl (T 5, 40, .inr (.inr (.inr (.inr g0))))), (a4, .inl (T 0, 40, .inl (cI f0))), (a5, .inl (T 0, 40, .inl (cI f1))), (a6, .inl (T 0, 40, .inl (cI f2))), (a9, .inl (T 0, 9, .inl (cI f4))), (a10, .inl (T 0, 9, .inl (cI f5))), (a11, .inl (T 0, 9, .inl (cI f6))), (a12, .inl (T 0, 9, .inl (cI f7))), (a16, .inl (T 0, 3, .inl (cI f8))), (a17, .inl (T 0, 9, .inl ff20)), (a18, .inl (T 0, 9, .inl (cI ff21))), (a19, .inl (T 0, 9, .inl (cI ff22))), (a20, .inl (T 0, 3, .inl ff23))] H locs := w
        refine lv_istore_n (lv' := [(3, .int (iI z15)), (4, .int (iI z9)), (0, .ref a0), (1, .ref a1), (2, .ref a2)]) hx hb dX0_live_22 rfl hl (by decide) rfl (fun ls hl => ?_)
        refine lv_iload_n hx hb dX0_live_23 rfl (lv_at hl 0 rfl) ?_
        refine lv_if_eq (tgt := 30) hx hb dX0_live_24 (by decide) (fun c_24 => ?_) (fun c_24 => ?_)
        · replace c_24 := (iz_eq (Int.le_trans (by decide) z15_a) (Int.le_trans z15_b (by decide))).mp c_24
          refine lv_iinc (v := iI (z9 + 1)) (lv' := [(4, .int (iI (z9 + 1))), (3, .int (iI z15)), (0, .ref a0), (1, .ref a1), (2, .ref a2)]) hx hb dX0_live_30 hl (k := 1) rfl (ii_inc (by decide +kernel)) (by decide) rfl (fun ls hl => ?_)
          refine lv_goto (tgt := 5) hx hb dX0_live_33 (by decide) ?_
          exact ih1 ff20 ff21 ff22 fr16 fr17 fr18 fr19 ff23 (z9 + 1) z15 _ _ _ ff21_h ff22_h (by omega) (by omega) z15_a z15_b (by omega) (w.sub [1, 2, 3, 4, 5, 6, 7, 0, 8, 9, 10, 11, 12, 13, 14, 15, 16] (by decide) rfl) (lv_sub hl [0, 1, 2, 3, 4] rfl)
        · replace c_24 : ¬ z15 = 0 := fun h => c_24 ((iz_eq (Int.le_trans (by decide) z15_a) (Int.le_trans z15_b (by decide))).mpr h)
          refine lv_goto (tgt := 36) hx hb dX0_live_27 (by decide) ?_
          refine lv_aload_n hx hb dX0_live_36 rfl (lv_at hl 2 rfl) ?_
          refine r_get (v := .ref a7) M w 1 4 clX0 rfl (by decide) G267 rfl rfl dX0_live_37 ?_
          refine lv_iconst (v := iI 0) hx hb dX0_live_40 (by decide +kernel) ?_
          refine lv_iload_n hx hb dX0_live_41 rfl (lv_at hl 0 rfl) ?_
          refine r_iast (ws' := [(a7, .inl (T 0, 4, .inl (upd f3 (Int32.toNatClampNeg (iI 0)) (iI z15)))), (a0, .inr (0, [.ref a3, .ref a4, .ref a5, .ref a6, .ref a7, .int (iI x0)])), (a1, .inr (9, [.ref a8, .ref a9, .ref a10, .ref a11, .ref a12, .ref a13, .ref a14, .ref a15, .ref a16, .int (iI x1), .int (iI x2), .int (iI x3), .int (iI x4), .int (iI x5), .int (iI x6), .int (iI x7), .int (iI x8), .int (iI x9)])), (a2, .inr (7, [.ref a17, .ref a18, .ref a19, .ref a20, .int fr16, .int fr17, .int fr18, .int fr19])), (a3, .inl (T 5, 40, .inr (.inr (.inr (.inr g0))))), (a4, .inl (T 0, 40, .inl (cI f0))), (a5, .inl (T 0, 40, .inl (cI f1))), (a6, .inl (T 0, 40, .inl (cI f2))), (a9, .inl (T 0, 9, .inl (cI f4))), (a10, .inl (T 0, 9, .inl (cI f5))), (a11, .inl (T 0, 9, .inl (cI f6))), (a12, .inl (T 0, 9, .inl (cI f7))), (a16, .inl (T 0, 3, .inl (cI f8))), (a17, .inl (T 0, 9, .inl ff20)), (a18, .inl (T 0, 9, .inl (cI ff21))), (a19, .inl (T 0, 9, .inl (cI ff22))), (a20, .inl (T 0, 3, .inl ff23))]) M w 0 rfl (iI_in (by decide) (by decide) (by decide)) rfl dX0_live_42 (fun H locs w => ?_)
          refine lv_aload_n hx hb dX0_live_43 rfl (lv_at hl 2 rfl) ?_
          refine r_get (v := .ref a7) M w 1 4 clX0 rfl (by decide) G267 rfl rfl dX0_live_44 ?_
          refine lv_iconst (v := iI 1) hx hb dX0_live_47 (by decide +kernel) ?_
          refine lv_iload hx hb dX0_live_48 (lv_at hl 1 rfl) ?_
          refine r_iast (ws' := [(a7, .inl (T 0, 4, .inl (upd (upd f3 (Int32.toNatClampNeg (iI 0)) (iI z15)) (Int32.toNatClampNeg (iI 1)) (iI z9)))), (a0, .inr (0, [.ref a3, .ref a4, .ref a5, .ref a6, .ref a7, .int (iI x0)])), (a1, .inr (9, [.ref a8, .ref a9, .ref a10, .ref a11, .ref a12, .ref a13, .ref a14, .ref a15, .ref a16, .int (iI x1), .int (iI x2), .int (iI x3), .int (iI x4), .int (iI x5), .int (iI x6), .int (iI x7), .int (iI x8), .int (iI x9)])), (a2, .inr (7, [.ref a17, .ref a18, .ref a19, .ref a20, .int fr16, .int fr17, .int fr18, .int fr19])), (a3, .inl (T 5, 40, .inr (.inr (.inr (.inr g0))))), (a4, .inl (T 0, 40, .inl (cI f0))), (a5, .inl (T 0, 40, .inl (cI f1))), (a6, .inl (T 0, 40, .inl (cI f2))), (a9, .inl (T 0, 9, .inl (cI f4))), (a10, .inl (T 0, 9, .inl (cI f5))), (a11, .inl (T 0, 9, .inl (cI f6))), (a12, .inl (T 0, 9, .inl (cI f7))), (a16, .inl (T 0, 3, .inl (cI f8))), (a17, .inl (T 0, 9, .inl ff20)), (a18, .inl (T 0, 9, .inl (cI ff21))), (a19, .inl (T 0, 9, .inl (cI ff22))), (a20, .inl (T 0, 3, .inl ff23))]) M w 0 rfl (iI_in (by decide) (by decide) (by decide)) rfl dX0_live_50 (fun H locs w => ?_)
          refine lv_aload_n hx hb dX0_live_51 rfl (lv_at hl 2 rfl) ?_
          refine r_get (v := .ref a7) M w 1 4 clX0 rfl (by decide) G267 rfl rfl dX0_live_52 ?_
          refine lv_iconst (v := iI 2) hx hb dX0_live_55 (by decide +kernel) ?_
          refine lv_aload_n hx hb dX0_live_56 rfl (lv_at hl 4 rfl) ?_
          refine r_getN (v := .int fr16) M w 3 4 clX7 rfl (by decide) N230 rfl rfl dX0_live_57 ?_
          refine b_any (fun z25 z25_a z25_b => ?_)
          refine r_iast (ws' := [(a7, .inl (T 0, 4, .inl (upd (upd (upd f3 (Int32.toNatClampNeg (iI 0)) (iI z15)) (Int32.toNatClampNeg (iI 1)) (iI z9)) (Int32.toNatClampNeg (iI 2)) (iI z25)))), (a0, .inr (0, [.ref a3, .ref a4, .ref a5, .ref a6, .ref a7, .int (iI x0)])), (a1, .inr (9, [.ref a8, .ref a9, .ref a10, .ref a11, .ref a12, .ref a13, .ref a14, .ref a15, .ref a16, .int (iI x1), .int (iI x2), .int (iI x3), .int (iI x4), .int (iI x5), .int (iI x6), .int (iI x7), .int (iI x8), .int (iI x9)])), (a2, .inr (7, [.ref a17, .ref a18, .ref a19, .ref a20, .int fr16, .int fr17, .int fr18, .int fr19])), (a3, .inl (T 5, 40, .inr (.inr (.inr (.inr g0))))), (a4, .inl (T 0, 40, .inl (cI f0))), (a5, .inl (T 0, 40, .inl (cI f1))), (a6, .inl (T 0, 40, .inl (cI f2))), (a9, .inl (T 0, 9, .inl (cI f4))), (a10, .inl (T 0, 9, .inl (cI f5))), (a11, .inl (T 0, 9, .inl (cI f6))), (a12, .inl (T 0, 9, .inl (cI f7))), (a16, .inl (T 0, 3, .inl (cI f8))), (a17, .inl (T 0, 9, .inl ff20)), (a18, .inl (T 0, 9, .inl (cI ff21))), (a19, .inl (T 0, 9, .inl (cI ff22))), (a20, .inl (T 0, 3, .inl ff23))]) M w 0 rfl (iI_in (by decide) (by decide) (by decide)) rfl dX0_live_60 (fun H locs w => ?_)
          refine lv_aload_n hx hb dX0_live_61 rfl (lv_at hl 2 rfl) ?_
          refine r_get (v := .ref a7) M w 1 4 clX0 rfl (by decide) G267 rfl rfl dX0_live_62 ?_
          refine lv_iconst (v := iI 3) hx hb dX0_live_65 (by decide +kernel) ?_
          refine lv_aload_n hx hb dX0_live_66 rfl (lv_at hl 4 rfl) ?_
          refine lv_aload_n hx hb dX0_live_67 rfl (lv_at hl 3 rfl) ?_
          refine k_I (ce := 0) (sl := 0) (rest := [.int (iI 3), .ref a7]) (wr := [(a7, .inl (T 0, 4, .inl (upd (upd (upd f3 (Int32.toNatClampNeg (iI 0)) (iI z15)) (Int32.toNatClampNeg (iI 1)) (iI z9)) (Int32.toNatClampNeg (iI 2)) (iI z25)))), (a0, .inr (0, [.ref a3, .ref a4, .ref a5, .ref a6, .ref a7, .int (iI x0)])), (a3, .inl (T 5, 40, .inr (.inr (.inr (.inr g0))))), (a4, .inl (T 0, 40, .inl (cI f0))), (a5, .inl (T 0, 40, .inl (cI f1))), (a6, .inl (T 0, 40, .inl (cI f2))), (a9, .inl (T 0, 9, .inl (cI f4))), (a10, .inl (T 0, 9, .inl (cI f5))), (a11, .inl (T 0, 9, .inl (cI f6))), (a12, .inl (T 0, 9, .inl (cI f7))), (a16, .inl (T 0, 3, .inl (cI f8))), (a17, .inl (T 0, 9, .inl ff20)), (a19, .inl (T 0, 9, .inl (cI ff22))), (a20, .inl (T 0, 3, .inl ff23))]) (r_V (f := 0) [3, 2, 14] M w V_HookedCity_Book_107 G820 G821 (c244_X7_openOnes l D T _ a2 a1 a17 a18 a19 a20 fr16 fr17 fr18 fr19 a8 a9 a10 a11 a12 a13 a14 a15 a16 x1 x2 x3 x4 x5 x6 x7 x8 x9 ff21 x1_a x1_b x2_a x2_b x3_a x3_b x4_a x4_b x5_a x5_b x6_a x6_b x7_a x7_b x8_a x8_b x9_a x9_b ff21_h) 3 clX7 rfl rfl (by decide) rfl hl.1 rfl (Nat.le_of_ble_eq_true rfl) dX0_live_68 (by decide) (by decide) (by decide) (by decide)) w [3, 2, 14] [0, 1, 4, 5, 6, 7, 8, 9, 10, 11, 12, 13, 15, 16] rfl rfl (by decide) (by decide) rfl rfl (fun v z26 H locs hp w => ?_)
          have hv : iI z26 = v := hp.1
          subst hv
          have z26_a : (-2147483648) ≤ z26 := hp.2.1
          have z26_b : z26 ≤ 2147483647 := hp.2.2
          have w : WD D A s.heap [(a7, .inl (T 0, 4, .inl (upd (upd (upd f3 (Int32.toNatClampNeg (iI 0)) (iI z15)) (Int32.toNatClampNeg (iI 1)) (iI z9)) (Int32.toNatClampNeg (iI 2)) (iI z25)))), (a0, .inr (0, [.ref a3, .ref a4, .ref a5, .ref a6, .ref a7, .int (iI x0)])), (a3, .inl (T 5, 40, .inr (.inr (.inr (.inr g0))))), (a4, .inl (T 0, 40, .inl (cI f0))), (a5, .inl (T 0, 40, .inl (cI f1))), (a6, .inl (T 0, 40, .inl (cI f2))), (a9, .inl (T 0, 9, .inl (cI f4))), (a10, .inl (T 0, 9, .inl (cI f5))), (a11, .inl (T 0, 9, .inl (cI f6))), (a12, .inl (T 0, 9, .inl (cI f7))), (a16, .inl (T 0, 3, .inl (cI f8))), (a17, .inl (T 0, 9, .inl ff20)), (a19, .inl (T 0, 9, .inl (cI ff22))), (a20, .inl (T 0, 3, .inl ff23)), (a2, .inr (7, [.ref a17, .ref a18, .ref a19, .ref a20, .int fr16, .int fr17, .int fr18, .int fr19])), (a1, .inr (9, [.ref a8, .ref a9, .ref a10, .ref a11, .ref a12, .ref a13, .ref a14, .ref a15, .ref a16, .int (iI x1), .int (iI x2), .int (iI x3), .int (iI x4), .int (iI x5), .int (iI x6), .int (iI x7), .int (iI x8), .int (iI x9)])), (a18, .inl (T 0, 9, .inl (cI ff21)))] H locs := w
          refine r_iast (ws' := [(a7, .inl (T 0, 4, .inl (upd (upd (upd (upd f3 (Int32.toNatClampNeg (iI 0)) (iI z15)) (Int32.toNatClampNeg (iI 1)) (iI z9)) (Int32.toNatClampNeg (iI 2)) (iI z25)) (Int32.toNatClampNeg (iI 3)) (iI z26)))), (a0, .inr (0, [.ref a3, .ref a4, .ref a5, .ref a6, .ref a7, .int (iI x0)])), (a3, .inl (T 5, 40, .inr (.inr (.inr (.inr g0))))), (a4, .inl (T 0, 40, .inl (cI f0))), (a5, .inl (T 0, 40, .inl (cI f1))), (a6, .inl (T 0, 40, .inl (cI f2))), (a9, .inl (T 0, 9, .inl (cI f4))), (a10, .inl (T 0, 9, .inl (cI f5))), (a11, .inl (T 0, 9, .inl (cI f6))), (a12, .inl (T 0, 9, .inl (cI f7))), (a16, .inl (T 0, 3, .inl (cI f8))), (a17, .inl (T 0, 9, .inl ff20)), (a19, .inl (T 0, 9, .inl (cI ff22))), (a20, .inl (T 0, 3, .inl ff23)), (a2, .inr (7, [.ref a17, .ref a18, .ref a19, .ref a20, .int fr16, .int fr17, .int fr18, .int fr19])), (a1, .inr (9, [.ref a8, .ref a9, .ref a10, .ref a11, .ref a12, .ref a13, .ref a14, .ref a15, .ref a16, .int (iI x1), .int (iI x2), .int (iI x3), .int (iI x4), .int (iI x5), .int (iI x6), .int (iI x7), .int (iI x8), .int (iI x9)])), (a18, .inl (T 0, 9, .inl (cI ff21)))]) M w 0 rfl (iI_in (by decide) (by decide) (by decide)) rfl dX0_live_71 (fun H locs w => ?_)
          refine lv_iload_n hx hb dX0_live_72 rfl (lv_at hl 0 rfl) ?_
          refine lv_if_ne (tgt := 80) hx hb dX0_live_73 (by decide) (fun c_27 => ?_) (fun c_27 => ?_)
          · replace c_27 : ¬ z15 = 0 := fun h => c_27 ((iz_eq (Int.le_trans (by decide) z15_a) (Int.le_trans z15_b (by decide))).mpr h)
            refine lv_iload hx hb dX0_live_80 (lv_at hl 1 rfl) ?_
            exact ret _ (z9, fr16, fr17, fr18, fr19, (upd (upd (upd (upd f3 (Int32.toNatClampNeg (iI 0)) (iI z15)) (Int32.toNatClampNeg (iI 1)) (iI z9)) (Int32.toNatClampNeg (iI 2)) (iI z25)) (Int32.toNatClampNeg (iI 3)) (iI z26)), ff20, ff21, ff22, ff23) _ _ _ _ _ [1, 15, 14, 2, 3, 4, 5, 0, 6, 7, 8, 9, 10, 11, 16, 12, 13] dX0_live_82 ⟨rfl, (show (-2147483648) ≤ z9 from by omega), (show z9 ≤ 2147483647 from by omega), ff21_h, ff22_h⟩ w (by decide) rfl
          · replace c_27 := (iz_eq (Int.le_trans (by decide) z15_a) (Int.le_trans z15_b (by decide))).mp c_27
            refine lv_iconst (v := iI (-1)) hx hb dX0_live_76 (by decide +kernel) ?_
            refine lv_goto (tgt := 82) hx hb dX0_live_77 (by decide) ?_
            exact ret _ ((-1), fr16, fr17, fr18, fr19, (upd (upd (upd (upd f3 (Int32.toNatClampNeg (iI 0)) (iI z15)) (Int32.toNatClampNeg (iI 1)) (iI z9)) (Int32.toNatClampNeg (iI 2)) (iI z25)) (Int32.toNatClampNeg (iI 3)) (iI z26)), ff20, ff21, ff22, ff23) _ _ _ _ _ [1, 15, 14, 2, 3, 4, 5, 0, 6, 7, 8, 9, 10, 11, 16, 12, 13] dX0_live_82 ⟨rfl, (show (-2147483648) ≤ (-1) from by decide), (show ((-1) : Int) ≤ 2147483647 from by decide), ff21_h, ff22_h⟩ w (by decide) rfl
  exact loop1 (((x0 - 0) : Int).toNat + 1) f9 f10 f11 r0 r1 r2 r3 f12 0 0 _ _ _ f10_h f11_h (by decide) (by decide) (by decide) (by decide) (Nat.lt_succ_self _) w (lv_sub hl [0, 1, 2, 3, 4] rfl)
