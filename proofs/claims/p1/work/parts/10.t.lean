theorem dX8_init_0 : decode cX8_init 0 = .ok (.aload_n 0, 1) := by decide +kernel
theorem dX8_init_1 : decode cX8_init 1 = .ok (.invokespecial 3, 3) := by decide +kernel
theorem G159 : Cond.methodLink "HookedCity$Tape" 3 ⟨"java/lang/Object", "<init>", "()V"⟩ ∈ GW := gw_i 159 (by decide +kernel) rfl
theorem G152 : Cond.instanceMethod ⟨"java/lang/Object", "<init>", "()V"⟩ ∈ GW := gw_i 152 (by decide +kernel) rfl
theorem G153 : Cond.code ⟨"java/lang/Object", "<init>", "()V"⟩ object_method_1_code 1 none ∈ GW := gw_i 153 (by decide +kernel) rfl
theorem dX8_init_4 : decode cX8_init 4 = .ok (.aload_n 0, 1) := by decide +kernel
theorem dX8_init_5 : decode cX8_init 5 = .ok (.sipush 940, 3) := by decide +kernel
theorem dX8_init_8 : decode cX8_init 8 = .ok (.newarray .int, 2) := by decide +kernel
theorem G208 : Cond.arrayClass .int ∈ GW := gw_i 208 (by decide +kernel) rfl
theorem dX8_init_10 : decode cX8_init 10 = .ok (.putfield 11, 3) := by decide +kernel
theorem G160 : Cond.fieldLink "HookedCity$Tape" 11 "HookedCity$Tape" "bytes" "[I" ∈ GW := gw_i 160 (by decide +kernel) rfl
theorem dX8_init_13 : decode cX8_init 13 = .ok (.aload_n 0, 1) := by decide +kernel
theorem dX8_init_14 : decode cX8_init 14 = .ok (.iconst 0, 1) := by decide +kernel
theorem dX8_init_15 : decode cX8_init 15 = .ok (.putfield 15, 3) := by decide +kernel
theorem G162 : Cond.fieldLink "HookedCity$Tape" 15 "HookedCity$Tape" "length" "I" ∈ GW := gw_i 162 (by decide +kernel) rfl
theorem dX8_init_18 : decode cX8_init 18 = .ok (.aload_n 0, 1) := by decide +kernel
theorem dX8_init_19 : decode cX8_init 19 = .ok (.iconst 0, 1) := by decide +kernel
theorem dX8_init_20 : decode cX8_init 20 = .ok (.putfield 19, 3) := by decide +kernel
theorem G165 : Cond.fieldLink "HookedCity$Tape" 19 "HookedCity$Tape" "limit" "I" ∈ GW := gw_i 165 (by decide +kernel) rfl
theorem dX8_init_23 : decode cX8_init 23 = .ok (.aload_n 0, 1) := by decide +kernel
theorem dX8_init_24 : decode cX8_init 24 = .ok (.iconst 0, 1) := by decide +kernel
theorem dX8_init_25 : decode cX8_init 25 = .ok (.putfield 22, 3) := by decide +kernel
theorem G166 : Cond.fieldLink "HookedCity$Tape" 22 "HookedCity$Tape" "next" "I" ∈ GW := gw_i 166 (by decide +kernel) rfl
theorem dX8_init_28 : decode cX8_init 28 = .ok (.aload_n 0, 1) := by decide +kernel
theorem dX8_init_29 : decode cX8_init 29 = .ok (.iconst 0, 1) := by decide +kernel
theorem dX8_init_30 : decode cX8_init 30 = .ok (.putfield 25, 3) := by decide +kernel
theorem G167 : Cond.fieldLink "HookedCity$Tape" 25 "HookedCity$Tape" "place" "I" ∈ GW := gw_i 167 (by decide +kernel) rfl
theorem dX8_init_33 : decode cX8_init 33 = .ok (.aload_n 0, 1) := by decide +kernel
theorem dX8_init_34 : decode cX8_init 34 = .ok (.iconst 0, 1) := by decide +kernel
theorem dX8_init_35 : decode cX8_init 35 = .ok (.putfield 28, 3) := by decide +kernel
theorem G168 : Cond.fieldLink "HookedCity$Tape" 28 "HookedCity$Tape" "token" "I" ∈ GW := gw_i 168 (by decide +kernel) rfl
theorem dX8_init_38 : decode cX8_init 38 = .ok (.aload_n 0, 1) := by decide +kernel
theorem dX8_init_39 : decode cX8_init 39 = .ok (.aconst_null, 1) := by decide +kernel
theorem dX8_init_40 : decode cX8_init 40 = .ok (.putfield 31, 3) := by decide +kernel
theorem G170 : Cond.fieldLink "HookedCity$Tape" 31 "HookedCity$Tape" "word" "LHookedCity$Word;" ∈ GW := gw_i 170 (by decide +kernel) rfl
theorem dX8_init_43 : decode cX8_init 43 = .ok (.aload_n 0, 1) := by decide +kernel
theorem dX8_init_44 : decode cX8_init 44 = .ok (.lconst 0, 1) := by decide +kernel
theorem dX8_init_45 : decode cX8_init 45 = .ok (.putfield 35, 3) := by decide +kernel
theorem G174 : Cond.fieldLink "HookedCity$Tape" 35 "HookedCity$Tape" "name" "J" ∈ GW := gw_i 174 (by decide +kernel) rfl
theorem dX8_init_48 : decode cX8_init 48 = .ok (.aload_n 0, 1) := by decide +kernel
theorem dX8_init_49 : decode cX8_init 49 = .ok (.iconst 0, 1) := by decide +kernel
theorem dX8_init_50 : decode cX8_init 50 = .ok (.putfield 39, 3) := by decide +kernel
theorem G176 : Cond.fieldLink "HookedCity$Tape" 39 "HookedCity$Tape" "number" "I" ∈ GW := gw_i 176 (by decide +kernel) rfl
theorem dX8_init_53 : decode cX8_init 53 = .ok (.aload_n 0, 1) := by decide +kernel
theorem dX8_init_54 : decode cX8_init 54 = .ok (.iconst 0, 1) := by decide +kernel
theorem dX8_init_55 : decode cX8_init 55 = .ok (.putfield 42, 3) := by decide +kernel
theorem G177 : Cond.fieldLink "HookedCity$Tape" 42 "HookedCity$Tape" "mark" "I" ∈ GW := gw_i 177 (by decide +kernel) rfl
theorem dX8_init_58 : decode cX8_init 58 = .ok (.aload_n 0, 1) := by decide +kernel
theorem dX8_init_59 : decode cX8_init 59 = .ok (.iconst 0, 1) := by decide +kernel
theorem dX8_init_60 : decode cX8_init 60 = .ok (.putfield 45, 3) := by decide +kernel
theorem G179 : Cond.fieldLink "HookedCity$Tape" 45 "HookedCity$Tape" "faultKind" "I" ∈ GW := gw_i 179 (by decide +kernel) rfl
theorem dX8_init_63 : decode cX8_init 63 = .ok (.aload_n 0, 1) := by decide +kernel
theorem dX8_init_64 : decode cX8_init 64 = .ok (.iconst 0, 1) := by decide +kernel
theorem dX8_init_65 : decode cX8_init 65 = .ok (.putfield 48, 3) := by decide +kernel
theorem G181 : Cond.fieldLink "HookedCity$Tape" 48 "HookedCity$Tape" "faultPlace" "I" ∈ GW := gw_i 181 (by decide +kernel) rfl
theorem dX8_init_68 : decode cX8_init 68 = .ok (.return_, 1) := by decide +kernel
theorem dX7_init_0 : decode cX7_init 0 = .ok (.aload_n 0, 1) := by decide +kernel
theorem dX7_init_1 : decode cX7_init 1 = .ok (.invokespecial 3, 3) := by decide +kernel
theorem G214 : Cond.methodLink "HookedCity$State" 3 ⟨"java/lang/Object", "<init>", "()V"⟩ ∈ GW := gw_i 214 (by decide +kernel) rfl
theorem dX7_init_4 : decode cX7_init 4 = .ok (.aload_n 0, 1) := by decide +kernel
theorem dX7_init_5 : decode cX7_init 5 = .ok (.bipush 9, 2) := by decide +kernel
theorem dX7_init_7 : decode cX7_init 7 = .ok (.newarray .int, 2) := by decide +kernel
theorem dX7_init_9 : decode cX7_init 9 = .ok (.putfield 9, 3) := by decide +kernel
theorem G215 : Cond.fieldLink "HookedCity$State" 9 "HookedCity$State" "left" "[I" ∈ GW := gw_i 215 (by decide +kernel) rfl
theorem dX7_init_12 : decode cX7_init 12 = .ok (.aload_n 0, 1) := by decide +kernel
theorem dX7_init_13 : decode cX7_init 13 = .ok (.bipush 9, 2) := by decide +kernel
theorem dX7_init_15 : decode cX7_init 15 = .ok (.newarray .int, 2) := by decide +kernel
theorem dX7_init_17 : decode cX7_init 17 = .ok (.putfield 15, 3) := by decide +kernel
theorem G220 : Cond.fieldLink "HookedCity$State" 15 "HookedCity$State" "into" "[I" ∈ GW := gw_i 220 (by decide +kernel) rfl
theorem dX7_init_20 : decode cX7_init 20 = .ok (.aload_n 0, 1) := by decide +kernel
theorem dX7_init_21 : decode cX7_init 21 = .ok (.bipush 9, 2) := by decide +kernel
theorem dX7_init_23 : decode cX7_init 23 = .ok (.newarray .int, 2) := by decide +kernel
theorem dX7_init_25 : decode cX7_init 25 = .ok (.putfield 18, 3) := by decide +kernel
theorem G224 : Cond.fieldLink "HookedCity$State" 18 "HookedCity$State" "from" "[I" ∈ GW := gw_i 224 (by decide +kernel) rfl
theorem dX7_init_28 : decode cX7_init 28 = .ok (.aload_n 0, 1) := by decide +kernel
theorem dX7_init_29 : decode cX7_init 29 = .ok (.iconst 3, 1) := by decide +kernel
theorem dX7_init_30 : decode cX7_init 30 = .ok (.newarray .int, 2) := by decide +kernel
theorem dX7_init_32 : decode cX7_init 32 = .ok (.putfield 21, 3) := by decide +kernel
theorem G227 : Cond.fieldLink "HookedCity$State" 21 "HookedCity$State" "used" "[I" ∈ GW := gw_i 227 (by decide +kernel) rfl
theorem dX7_init_35 : decode cX7_init 35 = .ok (.aload_n 0, 1) := by decide +kernel
theorem dX7_init_36 : decode cX7_init 36 = .ok (.iconst 0, 1) := by decide +kernel
theorem dX7_init_37 : decode cX7_init 37 = .ok (.putfield 24, 3) := by decide +kernel
theorem G229 : Cond.fieldLink "HookedCity$State" 24 "HookedCity$State" "day" "I" ∈ GW := gw_i 229 (by decide +kernel) rfl
theorem dX7_init_40 : decode cX7_init 40 = .ok (.aload_n 0, 1) := by decide +kernel
theorem dX7_init_41 : decode cX7_init 41 = .ok (.iconst 0, 1) := by decide +kernel
theorem dX7_init_42 : decode cX7_init 42 = .ok (.putfield 28, 3) := by decide +kernel
theorem G232 : Cond.fieldLink "HookedCity$State" 28 "HookedCity$State" "spares" "I" ∈ GW := gw_i 232 (by decide +kernel) rfl
theorem dX7_init_45 : decode cX7_init 45 = .ok (.aload_n 0, 1) := by decide +kernel
theorem dX7_init_46 : decode cX7_init 46 = .ok (.iconst 0, 1) := by decide +kernel
theorem dX7_init_47 : decode cX7_init 47 = .ok (.putfield 31, 3) := by decide +kernel
theorem G234 : Cond.fieldLink "HookedCity$State" 31 "HookedCity$State" "buttoned" "I" ∈ GW := gw_i 234 (by decide +kernel) rfl
theorem dX7_init_50 : decode cX7_init 50 = .ok (.aload_n 0, 1) := by decide +kernel
theorem dX7_init_51 : decode cX7_init 51 = .ok (.iconst 0, 1) := by decide +kernel
theorem dX7_init_52 : decode cX7_init 52 = .ok (.putfield 34, 3) := by decide +kernel
theorem G236 : Cond.fieldLink "HookedCity$State" 34 "HookedCity$State" "perished" "I" ∈ GW := gw_i 236 (by decide +kernel) rfl
theorem dX7_init_55 : decode cX7_init 55 = .ok (.return_, 1) := by decide +kernel
theorem dX6_init_0 : decode cX6_init 0 = .ok (.aload_n 0, 1) := by decide +kernel
theorem dX6_init_1 : decode cX6_init 1 = .ok (.invokespecial 3, 3) := by decide +kernel
theorem G314 : Cond.methodLink "HookedCity$Slipped" 3 ⟨"java/lang/Object", "<init>", "()V"⟩ ∈ GW := gw_i 314 (by decide +kernel) rfl
theorem dX6_init_4 : decode cX6_init 4 = .ok (.aload_n 0, 1) := by decide +kernel
theorem dX6_init_5 : decode cX6_init 5 = .ok (.iconst (-1), 1) := by decide +kernel
theorem dX6_init_6 : decode cX6_init 6 = .ok (.putfield 9, 3) := by decide +kernel
theorem G315 : Cond.fieldLink "HookedCity$Slipped" 9 "HookedCity$Slipped" "least" "I" ∈ GW := gw_i 315 (by decide +kernel) rfl
theorem dX6_init_9 : decode cX6_init 9 = .ok (.aload_n 0, 1) := by decide +kernel
theorem dX6_init_10 : decode cX6_init 10 = .ok (.iconst (-1), 1) := by decide +kernel
theorem dX6_init_11 : decode cX6_init 11 = .ok (.putfield 15, 3) := by decide +kernel
theorem G317 : Cond.fieldLink "HookedCity$Slipped" 15 "HookedCity$Slipped" "next" "I" ∈ GW := gw_i 317 (by decide +kernel) rfl
theorem dX6_init_14 : decode cX6_init 14 = .ok (.return_, 1) := by decide +kernel
theorem dX2_init_0 : decode cX2_init 0 = .ok (.aload_n 0, 1) := by decide +kernel
theorem dX2_init_1 : decode cX2_init 1 = .ok (.invokespecial 3, 3) := by decide +kernel
theorem G347 : Cond.methodLink "HookedCity$Label" 3 ⟨"java/lang/Object", "<init>", "()V"⟩ ∈ GW := gw_i 347 (by decide +kernel) rfl
theorem dX2_init_4 : decode cX2_init 4 = .ok (.aload_n 0, 1) := by decide +kernel
theorem dX2_init_5 : decode cX2_init 5 = .ok (.bipush 23, 2) := by decide +kernel
theorem dX2_init_7 : decode cX2_init 7 = .ok (.newarray .int, 2) := by decide +kernel
theorem dX2_init_9 : decode cX2_init 9 = .ok (.putfield 11, 3) := by decide +kernel
theorem G348 : Cond.fieldLink "HookedCity$Label" 11 "HookedCity$Label" "bytes" "[I" ∈ GW := gw_i 348 (by decide +kernel) rfl
theorem dX2_init_12 : decode cX2_init 12 = .ok (.aload_n 0, 1) := by decide +kernel
theorem dX2_init_13 : decode cX2_init 13 = .ok (.iconst 0, 1) := by decide +kernel
theorem dX2_init_14 : decode cX2_init 14 = .ok (.putfield 15, 3) := by decide +kernel
theorem G350 : Cond.fieldLink "HookedCity$Label" 15 "HookedCity$Label" "length" "I" ∈ GW := gw_i 350 (by decide +kernel) rfl
theorem dX2_init_17 : decode cX2_init 17 = .ok (.return_, 1) := by decide +kernel
theorem dX0_init_0 : decode cX0_init 0 = .ok (.aload_n 0, 1) := by decide +kernel
theorem dX0_init_1 : decode cX0_init 1 = .ok (.invokespecial 3, 3) := by decide +kernel
theorem G260 : Cond.methodLink "HookedCity$Book" 3 ⟨"java/lang/Object", "<init>", "()V"⟩ ∈ GW := gw_i 260 (by decide +kernel) rfl
theorem dX0_init_4 : decode cX0_init 4 = .ok (.aload_n 0, 1) := by decide +kernel
theorem dX0_init_5 : decode cX0_init 5 = .ok (.bipush 40, 2) := by decide +kernel
theorem dX0_init_7 : decode cX0_init 7 = .ok (.anewarray 11, 3) := by decide +kernel
theorem G261 : Cond.classLink "HookedCity$Book" 11 "HookedCity$Word" ∈ GW := gw_i 261 (by decide +kernel) rfl
theorem N262 : Cond.arrayOver (.object "HookedCity$Word") ∈ lw_tbl := List.mem_of_getElem? (i := 262) (by decide +kernel)
theorem dX0_init_10 : decode cX0_init 10 = .ok (.putfield 13, 3) := by decide +kernel
theorem G263 : Cond.fieldLink "HookedCity$Book" 13 "HookedCity$Book" "acts" "[LHookedCity$Word;" ∈ GW := gw_i 263 (by decide +kernel) rfl
theorem dX0_init_13 : decode cX0_init 13 = .ok (.aload_n 0, 1) := by decide +kernel
theorem dX0_init_14 : decode cX0_init 14 = .ok (.bipush 40, 2) := by decide +kernel
theorem dX0_init_16 : decode cX0_init 16 = .ok (.newarray .int, 2) := by decide +kernel
theorem dX0_init_18 : decode cX0_init 18 = .ok (.putfield 17, 3) := by decide +kernel
theorem G264 : Cond.fieldLink "HookedCity$Book" 17 "HookedCity$Book" "whose" "[I" ∈ GW := gw_i 264 (by decide +kernel) rfl
theorem dX0_init_21 : decode cX0_init 21 = .ok (.aload_n 0, 1) := by decide +kernel
theorem dX0_init_22 : decode cX0_init 22 = .ok (.bipush 40, 2) := by decide +kernel
theorem dX0_init_24 : decode cX0_init 24 = .ok (.newarray .int, 2) := by decide +kernel
theorem dX0_init_26 : decode cX0_init 26 = .ok (.putfield 21, 3) := by decide +kernel
theorem G265 : Cond.fieldLink "HookedCity$Book" 21 "HookedCity$Book" "first" "[I" ∈ GW := gw_i 265 (by decide +kernel) rfl
theorem dX0_init_29 : decode cX0_init 29 = .ok (.aload_n 0, 1) := by decide +kernel
theorem dX0_init_30 : decode cX0_init 30 = .ok (.bipush 40, 2) := by decide +kernel
theorem dX0_init_32 : decode cX0_init 32 = .ok (.newarray .int, 2) := by decide +kernel
theorem dX0_init_34 : decode cX0_init 34 = .ok (.putfield 24, 3) := by decide +kernel
theorem G266 : Cond.fieldLink "HookedCity$Book" 24 "HookedCity$Book" "second" "[I" ∈ GW := gw_i 266 (by decide +kernel) rfl
theorem dX0_init_37 : decode cX0_init 37 = .ok (.aload_n 0, 1) := by decide +kernel
theorem dX0_init_38 : decode cX0_init 38 = .ok (.iconst 4, 1) := by decide +kernel
theorem dX0_init_39 : decode cX0_init 39 = .ok (.newarray .int, 2) := by decide +kernel
theorem dX0_init_41 : decode cX0_init 41 = .ok (.dup, 1) := by decide +kernel
theorem dX0_init_42 : decode cX0_init 42 = .ok (.iconst 0, 1) := by decide +kernel
theorem dX0_init_43 : decode cX0_init 43 = .ok (.iconst (-1), 1) := by decide +kernel
theorem dX0_init_44 : decode cX0_init 44 = .ok (.iastore, 1) := by decide +kernel
theorem dX0_init_45 : decode cX0_init 45 = .ok (.dup, 1) := by decide +kernel
theorem dX0_init_46 : decode cX0_init 46 = .ok (.iconst 1, 1) := by decide +kernel
theorem dX0_init_47 : decode cX0_init 47 = .ok (.iconst (-1), 1) := by decide +kernel
theorem dX0_init_48 : decode cX0_init 48 = .ok (.iastore, 1) := by decide +kernel
theorem dX0_init_49 : decode cX0_init 49 = .ok (.dup, 1) := by decide +kernel
theorem dX0_init_50 : decode cX0_init 50 = .ok (.iconst 2, 1) := by decide +kernel
theorem dX0_init_51 : decode cX0_init 51 = .ok (.iconst (-1), 1) := by decide +kernel
theorem dX0_init_52 : decode cX0_init 52 = .ok (.iastore, 1) := by decide +kernel
theorem dX0_init_53 : decode cX0_init 53 = .ok (.dup, 1) := by decide +kernel
theorem dX0_init_54 : decode cX0_init 54 = .ok (.iconst 3, 1) := by decide +kernel
theorem dX0_init_55 : decode cX0_init 55 = .ok (.iconst (-1), 1) := by decide +kernel
theorem dX0_init_56 : decode cX0_init 56 = .ok (.iastore, 1) := by decide +kernel
theorem dX0_init_57 : decode cX0_init 57 = .ok (.putfield 27, 3) := by decide +kernel
theorem G267 : Cond.fieldLink "HookedCity$Book" 27 "HookedCity$Book" "tells" "[I" ∈ GW := gw_i 267 (by decide +kernel) rfl
theorem dX0_init_60 : decode cX0_init 60 = .ok (.aload_n 0, 1) := by decide +kernel
theorem dX0_init_61 : decode cX0_init 61 = .ok (.iconst 0, 1) := by decide +kernel
theorem dX0_init_62 : decode cX0_init 62 = .ok (.putfield 30, 3) := by decide +kernel
theorem G269 : Cond.fieldLink "HookedCity$Book" 30 "HookedCity$Book" "lines" "I" ∈ GW := gw_i 269 (by decide +kernel) rfl
theorem dX0_init_65 : decode cX0_init 65 = .ok (.return_, 1) := by decide +kernel
theorem dX4_init_0 : decode cX4_init 0 = .ok (.aload_n 0, 1) := by decide +kernel
theorem dX4_init_1 : decode cX4_init 1 = .ok (.invokespecial 3, 3) := by decide +kernel
theorem G329 : Cond.methodLink "HookedCity$Path" 3 ⟨"java/lang/Object", "<init>", "()V"⟩ ∈ GW := gw_i 329 (by decide +kernel) rfl
theorem dX4_init_4 : decode cX4_init 4 = .ok (.aload_n 0, 1) := by decide +kernel
theorem dX4_init_5 : decode cX4_init 5 = .ok (.bipush 9, 2) := by decide +kernel
theorem dX4_init_7 : decode cX4_init 7 = .ok (.newarray .int, 2) := by decide +kernel
theorem dX4_init_9 : decode cX4_init 9 = .ok (.putfield 9, 3) := by decide +kernel
theorem G330 : Cond.fieldLink "HookedCity$Path" 9 "HookedCity$Path" "steps" "[I" ∈ GW := gw_i 330 (by decide +kernel) rfl
theorem dX4_init_12 : decode cX4_init 12 = .ok (.aload_n 0, 1) := by decide +kernel
theorem dX4_init_13 : decode cX4_init 13 = .ok (.bipush 9, 2) := by decide +kernel
theorem dX4_init_15 : decode cX4_init 15 = .ok (.newarray .int, 2) := by decide +kernel
theorem dX4_init_17 : decode cX4_init 17 = .ok (.putfield 15, 3) := by decide +kernel
theorem G332 : Cond.fieldLink "HookedCity$Path" 15 "HookedCity$Path" "layers" "[I" ∈ GW := gw_i 332 (by decide +kernel) rfl
theorem dX4_init_20 : decode cX4_init 20 = .ok (.aload_n 0, 1) := by decide +kernel
theorem dX4_init_21 : decode cX4_init 21 = .ok (.iconst 0, 1) := by decide +kernel
theorem dX4_init_22 : decode cX4_init 22 = .ok (.putfield 18, 3) := by decide +kernel
theorem G333 : Cond.fieldLink "HookedCity$Path" 18 "HookedCity$Path" "length" "I" ∈ GW := gw_i 333 (by decide +kernel) rfl
theorem dX4_init_25 : decode cX4_init 25 = .ok (.return_, 1) := by decide +kernel
theorem dX9_init_0 : decode cX9_init 0 = .ok (.aload_n 0, 1) := by decide +kernel
theorem dX9_init_1 : decode cX9_init 1 = .ok (.invokespecial 3, 3) := by decide +kernel
theorem G365 : Cond.methodLink "HookedCity$Town" 3 ⟨"java/lang/Object", "<init>", "()V"⟩ ∈ GW := gw_i 365 (by decide +kernel) rfl
theorem dX9_init_4 : decode cX9_init 4 = .ok (.aload_n 0, 1) := by decide +kernel
theorem dX9_init_5 : decode cX9_init 5 = .ok (.bipush 9, 2) := by decide +kernel
theorem dX9_init_7 : decode cX9_init 7 = .ok (.newarray .long, 2) := by decide +kernel
theorem G444 : Cond.arrayClass .long ∈ GW := gw_i 444 (by decide +kernel) rfl
theorem dX9_init_9 : decode cX9_init 9 = .ok (.putfield 9, 3) := by decide +kernel
theorem G366 : Cond.fieldLink "HookedCity$Town" 9 "HookedCity$Town" "names" "[J" ∈ GW := gw_i 366 (by decide +kernel) rfl
theorem dX9_init_12 : decode cX9_init 12 = .ok (.aload_n 0, 1) := by decide +kernel
theorem dX9_init_13 : decode cX9_init 13 = .ok (.bipush 9, 2) := by decide +kernel
theorem dX9_init_15 : decode cX9_init 15 = .ok (.newarray .int, 2) := by decide +kernel
theorem dX9_init_17 : decode cX9_init 17 = .ok (.putfield 15, 3) := by decide +kernel
theorem G368 : Cond.fieldLink "HookedCity$Town" 15 "HookedCity$Town" "loops" "[I" ∈ GW := gw_i 368 (by decide +kernel) rfl
theorem dX9_init_20 : decode cX9_init 20 = .ok (.aload_n 0, 1) := by decide +kernel
theorem dX9_init_21 : decode cX9_init 21 = .ok (.bipush 9, 2) := by decide +kernel
theorem dX9_init_23 : decode cX9_init 23 = .ok (.newarray .int, 2) := by decide +kernel
theorem dX9_init_25 : decode cX9_init 25 = .ok (.putfield 19, 3) := by decide +kernel
theorem G370 : Cond.fieldLink "HookedCity$Town" 19 "HookedCity$Town" "buttons" "[I" ∈ GW := gw_i 370 (by decide +kernel) rfl
theorem dX9_init_28 : decode cX9_init 28 = .ok (.aload_n 0, 1) := by decide +kernel
theorem dX9_init_29 : decode cX9_init 29 = .ok (.bipush 9, 2) := by decide +kernel
theorem dX9_init_31 : decode cX9_init 31 = .ok (.newarray .int, 2) := by decide +kernel
theorem dX9_init_33 : decode cX9_init 33 = .ok (.putfield 22, 3) := by decide +kernel
theorem G372 : Cond.fieldLink "HookedCity$Town" 22 "HookedCity$Town" "strengths" "[I" ∈ GW := gw_i 372 (by decide +kernel) rfl
theorem dX9_init_36 : decode cX9_init 36 = .ok (.aload_n 0, 1) := by decide +kernel
theorem dX9_init_37 : decode cX9_init 37 = .ok (.bipush 9, 2) := by decide +kernel
theorem dX9_init_39 : decode cX9_init 39 = .ok (.newarray .int, 2) := by decide +kernel
theorem dX9_init_41 : decode cX9_init 41 = .ok (.putfield 25, 3) := by decide +kernel
theorem G375 : Cond.fieldLink "HookedCity$Town" 25 "HookedCity$Town" "streets" "[I" ∈ GW := gw_i 375 (by decide +kernel) rfl
theorem dX9_init_44 : decode cX9_init 44 = .ok (.aload_n 0, 1) := by decide +kernel
theorem dX9_init_45 : decode cX9_init 45 = .ok (.bipush 9, 2) := by decide +kernel
theorem dX9_init_47 : decode cX9_init 47 = .ok (.newarray .int, 2) := by decide +kernel
theorem dX9_init_49 : decode cX9_init 49 = .ok (.putfield 28, 3) := by decide +kernel
theorem G379 : Cond.fieldLink "HookedCity$Town" 28 "HookedCity$Town" "into" "[I" ∈ GW := gw_i 379 (by decide +kernel) rfl
theorem dX9_init_52 : decode cX9_init 52 = .ok (.aload_n 0, 1) := by decide +kernel
theorem dX9_init_53 : decode cX9_init 53 = .ok (.bipush 9, 2) := by decide +kernel
theorem dX9_init_55 : decode cX9_init 55 = .ok (.newarray .int, 2) := by decide +kernel
theorem dX9_init_57 : decode cX9_init 57 = .ok (.putfield 31, 3) := by decide +kernel
theorem G381 : Cond.fieldLink "HookedCity$Town" 31 "HookedCity$Town" "from" "[I" ∈ GW := gw_i 381 (by decide +kernel) rfl
theorem dX9_init_60 : decode cX9_init 60 = .ok (.aload_n 0, 1) := by decide +kernel
theorem dX9_init_61 : decode cX9_init 61 = .ok (.iconst 3, 1) := by decide +kernel
theorem dX9_init_62 : decode cX9_init 62 = .ok (.newarray .long, 2) := by decide +kernel
theorem dX9_init_64 : decode cX9_init 64 = .ok (.putfield 34, 3) := by decide +kernel
theorem G383 : Cond.fieldLink "HookedCity$Town" 34 "HookedCity$Town" "maidNames" "[J" ∈ GW := gw_i 383 (by decide +kernel) rfl
theorem dX9_init_67 : decode cX9_init 67 = .ok (.aload_n 0, 1) := by decide +kernel
theorem dX9_init_68 : decode cX9_init 68 = .ok (.iconst 3, 1) := by decide +kernel
theorem dX9_init_69 : decode cX9_init 69 = .ok (.newarray .int, 2) := by decide +kernel
theorem dX9_init_71 : decode cX9_init 71 = .ok (.putfield 37, 3) := by decide +kernel
theorem G384 : Cond.fieldLink "HookedCity$Town" 37 "HookedCity$Town" "hooks" "[I" ∈ GW := gw_i 384 (by decide +kernel) rfl
theorem dX9_init_74 : decode cX9_init 74 = .ok (.aload_n 0, 1) := by decide +kernel
theorem dX9_init_75 : decode cX9_init 75 = .ok (.iconst 0, 1) := by decide +kernel
theorem dX9_init_76 : decode cX9_init 76 = .ok (.putfield 40, 3) := by decide +kernel
theorem G387 : Cond.fieldLink "HookedCity$Town" 40 "HookedCity$Town" "persons" "I" ∈ GW := gw_i 387 (by decide +kernel) rfl
theorem dX9_init_79 : decode cX9_init 79 = .ok (.aload_n 0, 1) := by decide +kernel
theorem dX9_init_80 : decode cX9_init 80 = .ok (.iconst 0, 1) := by decide +kernel
theorem dX9_init_81 : decode cX9_init 81 = .ok (.putfield 44, 3) := by decide +kernel
theorem G393 : Cond.fieldLink "HookedCity$Town" 44 "HookedCity$Town" "maids" "I" ∈ GW := gw_i 393 (by decide +kernel) rfl
theorem dX9_init_84 : decode cX9_init 84 = .ok (.aload_n 0, 1) := by decide +kernel
theorem dX9_init_85 : decode cX9_init 85 = .ok (.iconst 0, 1) := by decide +kernel
theorem dX9_init_86 : decode cX9_init 86 = .ok (.putfield 47, 3) := by decide +kernel
theorem G396 : Cond.fieldLink "HookedCity$Town" 47 "HookedCity$Town" "lines" "I" ∈ GW := gw_i 396 (by decide +kernel) rfl
theorem dX9_init_89 : decode cX9_init 89 = .ok (.aload_n 0, 1) := by decide +kernel
theorem dX9_init_90 : decode cX9_init 90 = .ok (.iconst 0, 1) := by decide +kernel
theorem dX9_init_91 : decode cX9_init 91 = .ok (.putfield 50, 3) := by decide +kernel
theorem G398 : Cond.fieldLink "HookedCity$Town" 50 "HookedCity$Town" "spare" "I" ∈ GW := gw_i 398 (by decide +kernel) rfl
theorem dX9_init_94 : decode cX9_init 94 = .ok (.aload_n 0, 1) := by decide +kernel
theorem dX9_init_95 : decode cX9_init 95 = .ok (.bipush 12, 2) := by decide +kernel
theorem dX9_init_97 : decode cX9_init 97 = .ok (.putfield 53, 3) := by decide +kernel
theorem G400 : Cond.fieldLink "HookedCity$Town" 53 "HookedCity$Town" "year" "I" ∈ GW := gw_i 400 (by decide +kernel) rfl
theorem dX9_init_100 : decode cX9_init 100 = .ok (.aload_n 0, 1) := by decide +kernel
theorem dX9_init_101 : decode cX9_init 101 = .ok (.iconst 1, 1) := by decide +kernel
theorem dX9_init_102 : decode cX9_init 102 = .ok (.putfield 56, 3) := by decide +kernel
theorem G402 : Cond.fieldLink "HookedCity$Town" 56 "HookedCity$Town" "july" "I" ∈ GW := gw_i 402 (by decide +kernel) rfl
theorem dX9_init_105 : decode cX9_init 105 = .ok (.aload_n 0, 1) := by decide +kernel
theorem dX9_init_106 : decode cX9_init 106 = .ok (.iconst 0, 1) := by decide +kernel
theorem dX9_init_107 : decode cX9_init 107 = .ok (.putfield 59, 3) := by decide +kernel
theorem G404 : Cond.fieldLink "HookedCity$Town" 59 "HookedCity$Town" "spareTold" "Z" ∈ GW := gw_i 404 (by decide +kernel) rfl
theorem dX9_init_110 : decode cX9_init 110 = .ok (.aload_n 0, 1) := by decide +kernel
theorem dX9_init_111 : decode cX9_init 111 = .ok (.iconst 0, 1) := by decide +kernel
theorem dX9_init_112 : decode cX9_init 112 = .ok (.putfield 63, 3) := by decide +kernel
theorem G405 : Cond.fieldLink "HookedCity$Town" 63 "HookedCity$Town" "yearTold" "Z" ∈ GW := gw_i 405 (by decide +kernel) rfl
theorem dX9_init_115 : decode cX9_init 115 = .ok (.aload_n 0, 1) := by decide +kernel
theorem dX9_init_116 : decode cX9_init 116 = .ok (.iconst 0, 1) := by decide +kernel
theorem dX9_init_117 : decode cX9_init 117 = .ok (.putfield 66, 3) := by decide +kernel
theorem G406 : Cond.fieldLink "HookedCity$Town" 66 "HookedCity$Town" "julyTold" "Z" ∈ GW := gw_i 406 (by decide +kernel) rfl
theorem dX9_init_120 : decode cX9_init 120 = .ok (.return_, 1) := by decide +kernel
theorem dX5_init_0 : decode cX5_init 0 = .ok (.aload_n 0, 1) := by decide +kernel
theorem dX5_init_1 : decode cX5_init 1 = .ok (.invokespecial 5, 3) := by decide +kernel
theorem G450 : Cond.methodLink "HookedCity$Sentence" 5 ⟨"java/lang/Object", "<init>", "()V"⟩ ∈ GW := gw_i 450 (by decide +kernel) rfl
theorem dX5_init_4 : decode cX5_init 4 = .ok (.aload_n 0, 1) := by decide +kernel
theorem dX5_init_5 : decode cX5_init 5 = .ok (.bipush 40, 2) := by decide +kernel
theorem dX5_init_7 : decode cX5_init 7 = .ok (.anewarray 11, 3) := by decide +kernel
theorem G451 : Cond.classLink "HookedCity$Sentence" 11 "HookedCity$Word" ∈ GW := gw_i 451 (by decide +kernel) rfl
theorem dX5_init_10 : decode cX5_init 10 = .ok (.putfield 13, 3) := by decide +kernel
theorem G452 : Cond.fieldLink "HookedCity$Sentence" 13 "HookedCity$Sentence" "steps" "[LHookedCity$Word;" ∈ GW := gw_i 452 (by decide +kernel) rfl
theorem dX5_init_13 : decode cX5_init 13 = .ok (.aload_n 0, 1) := by decide +kernel
theorem dX5_init_14 : decode cX5_init 14 = .ok (.bipush 40, 2) := by decide +kernel
theorem dX5_init_16 : decode cX5_init 16 = .ok (.newarray .int, 2) := by decide +kernel
theorem dX5_init_18 : decode cX5_init 18 = .ok (.putfield 17, 3) := by decide +kernel
theorem G453 : Cond.fieldLink "HookedCity$Sentence" 17 "HookedCity$Sentence" "signs" "[I" ∈ GW := gw_i 453 (by decide +kernel) rfl
theorem dX5_init_21 : decode cX5_init 21 = .ok (.aload_n 0, 1) := by decide +kernel
theorem dX5_init_22 : decode cX5_init 22 = .ok (.bipush 40, 2) := by decide +kernel
theorem dX5_init_24 : decode cX5_init 24 = .ok (.newarray .int, 2) := by decide +kernel
theorem dX5_init_26 : decode cX5_init 26 = .ok (.putfield 21, 3) := by decide +kernel
theorem G454 : Cond.fieldLink "HookedCity$Sentence" 21 "HookedCity$Sentence" "values" "[I" ∈ GW := gw_i 454 (by decide +kernel) rfl
theorem dX5_init_29 : decode cX5_init 29 = .ok (.aload_n 0, 1) := by decide +kernel
theorem dX5_init_30 : decode cX5_init 30 = .ok (.bipush 20, 2) := by decide +kernel
theorem dX5_init_32 : decode cX5_init 32 = .ok (.newarray .int, 2) := by decide +kernel
theorem dX5_init_34 : decode cX5_init 34 = .ok (.putfield 24, 3) := by decide +kernel
theorem G455 : Cond.fieldLink "HookedCity$Sentence" 24 "HookedCity$Sentence" "stack" "[I" ∈ GW := gw_i 455 (by decide +kernel) rfl
theorem dX5_init_37 : decode cX5_init 37 = .ok (.aload_n 0, 1) := by decide +kernel
theorem dX5_init_38 : decode cX5_init 38 = .ok (.iconst 0, 1) := by decide +kernel
theorem dX5_init_39 : decode cX5_init 39 = .ok (.putfield 27, 3) := by decide +kernel
theorem G456 : Cond.fieldLink "HookedCity$Sentence" 27 "HookedCity$Sentence" "size" "I" ∈ GW := gw_i 456 (by decide +kernel) rfl
theorem dX5_init_42 : decode cX5_init 42 = .ok (.aload_n 0, 1) := by decide +kernel
theorem dX5_init_43 : decode cX5_init 43 = .ok (.iconst 0, 1) := by decide +kernel
theorem dX5_init_44 : decode cX5_init 44 = .ok (.putfield 31, 3) := by decide +kernel
theorem G457 : Cond.fieldLink "HookedCity$Sentence" 31 "HookedCity$Sentence" "ones" "I" ∈ GW := gw_i 457 (by decide +kernel) rfl
theorem dX5_init_47 : decode cX5_init 47 = .ok (.return_, 1) := by decide +kernel
theorem dX1_init_0 : decode cX1_init 0 = .ok (.aload_n 0, 1) := by decide +kernel
theorem dX1_init_1 : decode cX1_init 1 = .ok (.invokespecial 1, 3) := by decide +kernel
theorem G476 : Cond.methodLink "HookedCity$Image" 1 ⟨"java/lang/Object", "<init>", "()V"⟩ ∈ GW := gw_i 476 (by decide +kernel) rfl
theorem dX1_init_4 : decode cX1_init 4 = .ok (.aload_n 0, 1) := by decide +kernel
theorem dX1_init_5 : decode cX1_init 5 = .ok (.new 7, 3) := by decide +kernel
theorem G477 : Cond.classLink "HookedCity$Image" 7 "HookedCity$Town" ∈ GW := gw_i 477 (by decide +kernel) rfl
theorem G361 : Cond.instantiable "HookedCity$Town" 18 ∈ GW := gw_i 361 (by decide +kernel) rfl
theorem G128 : Cond.initialized "HookedCity$Town" ∈ GW := gw_i 128 (by decide +kernel) rfl
theorem dX1_init_8 : decode cX1_init 8 = .ok (.dup, 1) := by decide +kernel
theorem dX1_init_9 : decode cX1_init 9 = .ok (.invokespecial 9, 3) := by decide +kernel
theorem G364 : Cond.code ⟨"HookedCity$Town", "<init>", "()V"⟩ prog_11_method_1_code 1 none ∈ GW := gw_i 364 (by decide +kernel) rfl
theorem N478 : Cond.methodLinkNest "HookedCity$Image" 9 ⟨"HookedCity$Town", "<init>", "()V"⟩ "HookedCity" ∈ lw_tbl := List.mem_of_getElem? (i := 478) (by decide +kernel)
theorem V_HookedCity_Image_9 : VN "HookedCity$Image" 9 yX9_init "HookedCity" cX9_init 1 none 0 := ⟨G364, N478, G128, by decide +kernel, by decide +kernel, by decide +kernel⟩
theorem G363 : Cond.instanceMethod ⟨"HookedCity$Town", "<init>", "()V"⟩ ∈ GW := gw_i 363 (by decide +kernel) rfl
theorem dX1_init_12 : decode cX1_init 12 = .ok (.putfield 10, 3) := by decide +kernel
theorem G483 : Cond.fieldLink "HookedCity$Image" 10 "HookedCity$Image" "town" "LHookedCity$Town;" ∈ GW := gw_i 483 (by decide +kernel) rfl
theorem dX1_init_15 : decode cX1_init 15 = .ok (.aload_n 0, 1) := by decide +kernel
theorem dX1_init_16 : decode cX1_init 16 = .ok (.new 16, 3) := by decide +kernel
theorem G479 : Cond.classLink "HookedCity$Image" 16 "HookedCity$State" ∈ GW := gw_i 479 (by decide +kernel) rfl
theorem G210 : Cond.instantiable "HookedCity$State" 8 ∈ GW := gw_i 210 (by decide +kernel) rfl
theorem G121 : Cond.initialized "HookedCity$State" ∈ GW := gw_i 121 (by decide +kernel) rfl
theorem dX1_init_19 : decode cX1_init 19 = .ok (.dup, 1) := by decide +kernel
theorem dX1_init_20 : decode cX1_init 20 = .ok (.invokespecial 18, 3) := by decide +kernel
theorem G213 : Cond.code ⟨"HookedCity$State", "<init>", "()V"⟩ prog_9_method_1_code 1 none ∈ GW := gw_i 213 (by decide +kernel) rfl
theorem N480 : Cond.methodLinkNest "HookedCity$Image" 18 ⟨"HookedCity$State", "<init>", "()V"⟩ "HookedCity" ∈ lw_tbl := List.mem_of_getElem? (i := 480) (by decide +kernel)
theorem V_HookedCity_Image_18 : VN "HookedCity$Image" 18 yX7_init "HookedCity" cX7_init 1 none 0 := ⟨G213, N480, G121, by decide +kernel, by decide +kernel, by decide +kernel⟩
theorem G212 : Cond.instanceMethod ⟨"HookedCity$State", "<init>", "()V"⟩ ∈ GW := gw_i 212 (by decide +kernel) rfl
theorem dX1_init_23 : decode cX1_init 23 = .ok (.putfield 19, 3) := by decide +kernel
theorem G484 : Cond.fieldLink "HookedCity$Image" 19 "HookedCity$Image" "state" "LHookedCity$State;" ∈ GW := gw_i 484 (by decide +kernel) rfl
theorem dX1_init_26 : decode cX1_init 26 = .ok (.aload_n 0, 1) := by decide +kernel
theorem dX1_init_27 : decode cX1_init 27 = .ok (.new 23, 3) := by decide +kernel
theorem G481 : Cond.classLink "HookedCity$Image" 23 "HookedCity$Sentence" ∈ GW := gw_i 481 (by decide +kernel) rfl
theorem G446 : Cond.instantiable "HookedCity$Sentence" 6 ∈ GW := gw_i 446 (by decide +kernel) rfl
theorem G129 : Cond.initialized "HookedCity$Sentence" ∈ GW := gw_i 129 (by decide +kernel) rfl
theorem dX1_init_30 : decode cX1_init 30 = .ok (.dup, 1) := by decide +kernel
theorem dX1_init_31 : decode cX1_init 31 = .ok (.invokespecial 25, 3) := by decide +kernel
theorem G449 : Cond.code ⟨"HookedCity$Sentence", "<init>", "()V"⟩ prog_7_method_1_code 1 none ∈ GW := gw_i 449 (by decide +kernel) rfl
theorem N482 : Cond.methodLinkNest "HookedCity$Image" 25 ⟨"HookedCity$Sentence", "<init>", "()V"⟩ "HookedCity" ∈ lw_tbl := List.mem_of_getElem? (i := 482) (by decide +kernel)
theorem V_HookedCity_Image_25 : VN "HookedCity$Image" 25 yX5_init "HookedCity" cX5_init 1 none 0 := ⟨G449, N482, G129, by decide +kernel, by decide +kernel, by decide +kernel⟩
theorem G448 : Cond.instanceMethod ⟨"HookedCity$Sentence", "<init>", "()V"⟩ ∈ GW := gw_i 448 (by decide +kernel) rfl
theorem dX1_init_34 : decode cX1_init 34 = .ok (.putfield 26, 3) := by decide +kernel
theorem G485 : Cond.fieldLink "HookedCity$Image" 26 "HookedCity$Image" "rule" "LHookedCity$Sentence;" ∈ GW := gw_i 485 (by decide +kernel) rfl
theorem dX1_init_37 : decode cX1_init 37 = .ok (.aload_n 0, 1) := by decide +kernel
theorem dX1_init_38 : decode cX1_init 38 = .ok (.iconst 0, 1) := by decide +kernel
theorem dX1_init_39 : decode cX1_init 39 = .ok (.putfield 30, 3) := by decide +kernel
theorem G486 : Cond.fieldLink "HookedCity$Image" 30 "HookedCity$Image" "full" "Z" ∈ GW := gw_i 486 (by decide +kernel) rfl
theorem dX1_init_42 : decode cX1_init 42 = .ok (.return_, 1) := by decide +kernel
set_option maxRecDepth 100000 in
set_option maxHeartbeats 4000000 in
theorem c1_X8_init (l : Launch) (D : va_G) (T : Nat → ClassId) (sz : Nat) (a0 : Nat) : Met l yX8_init (Cond.code yX8_init cX8_init 1 none :: GW) (Rm 1 1 940) (cPre [.ref a0] D T [(a0, .inr (8, [.null, .int 0, .int 0, .int 0, .int 0, .int 0, .null, .long 0, .int 0, .int 0, .int 0, .int 0]))] sz) (qV D [(a0, .inr (8, [.null, .int 0, .int 0, .int 0, .int 0, .int 0, .null, .long 0, .int 0, .int 0, .int 0, .int 0]))] sz (fun (u : Nat) => let n0 := u; True) (fun u => let n0 := u; [(a0, .inr (8, [.ref n0, .int 0, .int 0, .int 0, .int 0, .int 0, .null, .long 0, .int 0, .int 0, .int 0, .int 0])), (n0, .inl (T 0, 940, .inl (fun _ => 0)))])) 1 940 (va_A [(a0, .inr (8, [.null, .int 0, .int 0, .int 0, .int 0, .int 0, .null, .long 0, .int 0, .int 0, .int 0, .int 0]))] sz) := by
  refine e_V (by decide) (Nat.le_of_ble_eq_true rfl) ?_
  intro p e s m args below meth c A Q ls M hin w ret hl
  have hx := M.1.1
  have hb := M.1.2.1
  have hl : lv_has ls 1 [(0, .ref a0)] := hl
  refine lv_aload_n hx hb dX8_init_0 rfl (lv_at hl 0 rfl) ?_
  refine r_obj M G159 G152 G153 hl.1 dX8_init_1 (by decide) (Nat.le_of_ble_eq_true rfl) ?_
  refine lv_aload_n hx hb dX8_init_4 rfl (lv_at hl 0 rfl) ?_
  refine lv_sipush (v := 940) hx hb dX8_init_5 (by decide) ?_
  refine r_newai (N := 940) (ce := 1) (sl := 940) (ws' := fun q1 => [(a0, .inr (8, [.null, .int 0, .int 0, .int 0, .int 0, .int 0, .null, .long 0, .int 0, .int 0, .int 0, .int 0])), (q1, .inl (T 0, 940, .inl (fun _ => 0)))]) M w G208 (by decide) (by decide +kernel) (by decide) rfl rfl (by decide) (by decide) (fun _ => rfl) dX8_init_8 (fun q1 H w => ?_)
  refine r_putF (ws' := [(a0, .inr (8, [.ref q1, .int 0, .int 0, .int 0, .int 0, .int 0, .null, .long 0, .int 0, .int 0, .int 0, .int 0])), (q1, .inl (T 0, 940, .inl (fun _ => 0)))]) M w 0 0 clX8 rfl (by decide) G160 rfl rfl hin rfl rfl rfl (Nat.le_of_ble_eq_true rfl) rfl dX8_init_10 (fun H locs w => ?_)
  refine lv_aload_n hx hb dX8_init_13 rfl (lv_at hl 0 rfl) ?_
  refine lv_iconst (v := 0) hx hb dX8_init_14 (by decide) ?_
  refine r_put (ws' := [(a0, .inr (8, [.ref q1, .int 0, .int 0, .int 0, .int 0, .int 0, .null, .long 0, .int 0, .int 0, .int 0, .int 0])), (q1, .inl (T 0, 940, .inl (fun _ => 0)))]) M w 0 1 clX8 rfl (by decide) G162 rfl rfl rfl rfl (Nat.le_of_ble_eq_true rfl) rfl dX8_init_15 (fun H locs w => ?_)
  refine lv_aload_n hx hb dX8_init_18 rfl (lv_at hl 0 rfl) ?_
  refine lv_iconst (v := 0) hx hb dX8_init_19 (by decide) ?_
  refine r_put (ws' := [(a0, .inr (8, [.ref q1, .int 0, .int 0, .int 0, .int 0, .int 0, .null, .long 0, .int 0, .int 0, .int 0, .int 0])), (q1, .inl (T 0, 940, .inl (fun _ => 0)))]) M w 0 2 clX8 rfl (by decide) G165 rfl rfl rfl rfl (Nat.le_of_ble_eq_true rfl) rfl dX8_init_20 (fun H locs w => ?_)
  refine lv_aload_n hx hb dX8_init_23 rfl (lv_at hl 0 rfl) ?_
  refine lv_iconst (v := 0) hx hb dX8_init_24 (by decide) ?_
  refine r_put (ws' := [(a0, .inr (8, [.ref q1, .int 0, .int 0, .int 0, .int 0, .int 0, .null, .long 0, .int 0, .int 0, .int 0, .int 0])), (q1, .inl (T 0, 940, .inl (fun _ => 0)))]) M w 0 3 clX8 rfl (by decide) G166 rfl rfl rfl rfl (Nat.le_of_ble_eq_true rfl) rfl dX8_init_25 (fun H locs w => ?_)
  refine lv_aload_n hx hb dX8_init_28 rfl (lv_at hl 0 rfl) ?_
  refine lv_iconst (v := 0) hx hb dX8_init_29 (by decide) ?_
  refine r_put (ws' := [(a0, .inr (8, [.ref q1, .int 0, .int 0, .int 0, .int 0, .int 0, .null, .long 0, .int 0, .int 0, .int 0, .int 0])), (q1, .inl (T 0, 940, .inl (fun _ => 0)))]) M w 0 4 clX8 rfl (by decide) G167 rfl rfl rfl rfl (Nat.le_of_ble_eq_true rfl) rfl dX8_init_30 (fun H locs w => ?_)
  refine lv_aload_n hx hb dX8_init_33 rfl (lv_at hl 0 rfl) ?_
  refine lv_iconst (v := 0) hx hb dX8_init_34 (by decide) ?_
  refine r_put (ws' := [(a0, .inr (8, [.ref q1, .int 0, .int 0, .int 0, .int 0, .int 0, .null, .long 0, .int 0, .int 0, .int 0, .int 0])), (q1, .inl (T 0, 940, .inl (fun _ => 0)))]) M w 0 5 clX8 rfl (by decide) G168 rfl rfl rfl rfl (Nat.le_of_ble_eq_true rfl) rfl dX8_init_35 (fun H locs w => ?_)
  refine lv_aload_n hx hb dX8_init_38 rfl (lv_at hl 0 rfl) ?_
  refine lv_null hx hb dX8_init_39 ?_
  refine r_put (ws' := [(a0, .inr (8, [.ref q1, .int 0, .int 0, .int 0, .int 0, .int 0, .null, .long 0, .int 0, .int 0, .int 0, .int 0])), (q1, .inl (T 0, 940, .inl (fun _ => 0)))]) M w 0 6 clX8 rfl (by decide) G170 rfl rfl rfl rfl (Nat.le_of_ble_eq_true rfl) rfl dX8_init_40 (fun H locs w => ?_)
  refine lv_aload_n hx hb dX8_init_43 rfl (lv_at hl 0 rfl) ?_
  refine lv_lconst (v := 0) hx hb dX8_init_44 (by decide) ?_
  refine r_put (ws' := [(a0, .inr (8, [.ref q1, .int 0, .int 0, .int 0, .int 0, .int 0, .null, .long 0, .int 0, .int 0, .int 0, .int 0])), (q1, .inl (T 0, 940, .inl (fun _ => 0)))]) M w 0 7 clX8 rfl (by decide) G174 rfl rfl rfl rfl (Nat.le_of_ble_eq_true rfl) rfl dX8_init_45 (fun H locs w => ?_)
  refine lv_aload_n hx hb dX8_init_48 rfl (lv_at hl 0 rfl) ?_
  refine lv_iconst (v := 0) hx hb dX8_init_49 (by decide) ?_
  refine r_put (ws' := [(a0, .inr (8, [.ref q1, .int 0, .int 0, .int 0, .int 0, .int 0, .null, .long 0, .int 0, .int 0, .int 0, .int 0])), (q1, .inl (T 0, 940, .inl (fun _ => 0)))]) M w 0 8 clX8 rfl (by decide) G176 rfl rfl rfl rfl (Nat.le_of_ble_eq_true rfl) rfl dX8_init_50 (fun H locs w => ?_)
  refine lv_aload_n hx hb dX8_init_53 rfl (lv_at hl 0 rfl) ?_
  refine lv_iconst (v := 0) hx hb dX8_init_54 (by decide) ?_
  refine r_put (ws' := [(a0, .inr (8, [.ref q1, .int 0, .int 0, .int 0, .int 0, .int 0, .null, .long 0, .int 0, .int 0, .int 0, .int 0])), (q1, .inl (T 0, 940, .inl (fun _ => 0)))]) M w 0 9 clX8 rfl (by decide) G177 rfl rfl rfl rfl (Nat.le_of_ble_eq_true rfl) rfl dX8_init_55 (fun H locs w => ?_)
  refine lv_aload_n hx hb dX8_init_58 rfl (lv_at hl 0 rfl) ?_
  refine lv_iconst (v := 0) hx hb dX8_init_59 (by decide) ?_
  refine r_put (ws' := [(a0, .inr (8, [.ref q1, .int 0, .int 0, .int 0, .int 0, .int 0, .null, .long 0, .int 0, .int 0, .int 0, .int 0])), (q1, .inl (T 0, 940, .inl (fun _ => 0)))]) M w 0 10 clX8 rfl (by decide) G179 rfl rfl rfl rfl (Nat.le_of_ble_eq_true rfl) rfl dX8_init_60 (fun H locs w => ?_)
  refine lv_aload_n hx hb dX8_init_63 rfl (lv_at hl 0 rfl) ?_
  refine lv_iconst (v := 0) hx hb dX8_init_64 (by decide) ?_
  refine r_put (ws' := [(a0, .inr (8, [.ref q1, .int 0, .int 0, .int 0, .int 0, .int 0, .null, .long 0, .int 0, .int 0, .int 0, .int 0])), (q1, .inl (T 0, 940, .inl (fun _ => 0)))]) M w 0 11 clX8 rfl (by decide) G181 rfl rfl rfl rfl (Nat.le_of_ble_eq_true rfl) rfl dX8_init_65 (fun H locs w => ?_)
  exact ret q1 _ _ _ _ _ [0, 1] dX8_init_68 trivial w (by decide) rfl
set_option maxRecDepth 100000 in
set_option maxHeartbeats 4000000 in
theorem c2_X7_init (l : Launch) (D : va_G) (T : Nat → ClassId) (sz : Nat) (a0 : Nat) : Met l yX7_init (Cond.code yX7_init cX7_init 1 none :: GW) (Rm 1 4 30) (cPre [.ref a0] D T [(a0, .inr (7, [.null, .null, .null, .null, .int 0, .int 0, .int 0, .int 0]))] sz) (qV D [(a0, .inr (7, [.null, .null, .null, .null, .int 0, .int 0, .int 0, .int 0]))] sz (fun (u : Nat × Nat × Nat × Nat) => let n0 := u.1; let n1 := u.2.1; let n2 := u.2.2.1; let n3 := u.2.2.2; True) (fun u => let n0 := u.1; let n1 := u.2.1; let n2 := u.2.2.1; let n3 := u.2.2.2; [(a0, .inr (7, [.ref n0, .ref n1, .ref n2, .ref n3, .int 0, .int 0, .int 0, .int 0])), (n0, .inl (T 0, 9, .inl (fun _ => 0))), (n1, .inl (T 0, 9, .inl (fun _ => 0))), (n2, .inl (T 0, 9, .inl (fun _ => 0))), (n3, .inl (T 0, 3, .inl (fun _ => 0)))])) 4 30 (va_A [(a0, .inr (7, [.null, .null, .null, .null, .int 0, .int 0, .int 0, .int 0]))] sz) := by
  refine e_V (by decide) (Nat.le_of_ble_eq_true rfl) ?_
  intro p e s m args below meth c A Q ls M hin w ret hl
  have hx := M.1.1
  have hb := M.1.2.1
  have hl : lv_has ls 1 [(0, .ref a0)] := hl
  refine lv_aload_n hx hb dX7_init_0 rfl (lv_at hl 0 rfl) ?_
  refine r_obj M G214 G152 G153 hl.1 dX7_init_1 (by decide) (Nat.le_of_ble_eq_true rfl) ?_
  refine lv_aload_n hx hb dX7_init_4 rfl (lv_at hl 0 rfl) ?_
  refine lv_bipush (v := 9) hx hb dX7_init_5 (by decide) ?_
  refine r_newai (N := 9) (ce := 1) (sl := 9) (ws' := fun q1 => [(a0, .inr (7, [.null, .null, .null, .null, .int 0, .int 0, .int 0, .int 0])), (q1, .inl (T 0, 9, .inl (fun _ => 0)))]) M w G208 (by decide) (by decide +kernel) (by decide) rfl rfl (by decide) (by decide) (fun _ => rfl) dX7_init_7 (fun q1 H w => ?_)
  refine r_putF (ws' := [(a0, .inr (7, [.ref q1, .null, .null, .null, .int 0, .int 0, .int 0, .int 0])), (q1, .inl (T 0, 9, .inl (fun _ => 0)))]) M w 0 0 clX7 rfl (by decide) G215 rfl rfl hin rfl rfl rfl (Nat.le_of_ble_eq_true rfl) rfl dX7_init_9 (fun H locs w => ?_)
  refine lv_aload_n hx hb dX7_init_12 rfl (lv_at hl 0 rfl) ?_
  refine lv_bipush (v := 9) hx hb dX7_init_13 (by decide) ?_
  refine r_newai (N := 9) (ce := 2) (sl := 18) (ws' := fun q2 => [(a0, .inr (7, [.ref q1, .null, .null, .null, .int 0, .int 0, .int 0, .int 0])), (q1, .inl (T 0, 9, .inl (fun _ => 0))), (q2, .inl (T 0, 9, .inl (fun _ => 0)))]) M w G208 (by decide) (by decide +kernel) (by decide) rfl rfl (by decide) (by decide) (fun _ => rfl) dX7_init_15 (fun q2 H w => ?_)
  refine r_putF (ws' := [(a0, .inr (7, [.ref q1, .ref q2, .null, .null, .int 0, .int 0, .int 0, .int 0])), (q1, .inl (T 0, 9, .inl (fun _ => 0))), (q2, .inl (T 0, 9, .inl (fun _ => 0)))]) M w 0 1 clX7 rfl (by decide) G220 rfl rfl hin rfl rfl rfl (Nat.le_of_ble_eq_true rfl) rfl dX7_init_17 (fun H locs w => ?_)
  refine lv_aload_n hx hb dX7_init_20 rfl (lv_at hl 0 rfl) ?_
  refine lv_bipush (v := 9) hx hb dX7_init_21 (by decide) ?_
  refine r_newai (N := 9) (ce := 3) (sl := 27) (ws' := fun q3 => [(a0, .inr (7, [.ref q1, .ref q2, .null, .null, .int 0, .int 0, .int 0, .int 0])), (q1, .inl (T 0, 9, .inl (fun _ => 0))), (q2, .inl (T 0, 9, .inl (fun _ => 0))), (q3, .inl (T 0, 9, .inl (fun _ => 0)))]) M w G208 (by decide) (by decide +kernel) (by decide) rfl rfl (by decide) (by decide) (fun _ => rfl) dX7_init_23 (fun q3 H w => ?_)
  refine r_putF (ws' := [(a0, .inr (7, [.ref q1, .ref q2, .ref q3, .null, .int 0, .int 0, .int 0, .int 0])), (q1, .inl (T 0, 9, .inl (fun _ => 0))), (q2, .inl (T 0, 9, .inl (fun _ => 0))), (q3, .inl (T 0, 9, .inl (fun _ => 0)))]) M w 0 2 clX7 rfl (by decide) G224 rfl rfl hin rfl rfl rfl (Nat.le_of_ble_eq_true rfl) rfl dX7_init_25 (fun H locs w => ?_)
  refine lv_aload_n hx hb dX7_init_28 rfl (lv_at hl 0 rfl) ?_
  refine lv_iconst (v := 3) hx hb dX7_init_29 (by decide) ?_
  refine r_newai (N := 3) (ce := 4) (sl := 30) (ws' := fun q4 => [(a0, .inr (7, [.ref q1, .ref q2, .ref q3, .null, .int 0, .int 0, .int 0, .int 0])), (q1, .inl (T 0, 9, .inl (fun _ => 0))), (q2, .inl (T 0, 9, .inl (fun _ => 0))), (q3, .inl (T 0, 9, .inl (fun _ => 0))), (q4, .inl (T 0, 3, .inl (fun _ => 0)))]) M w G208 (by decide) (by decide +kernel) (by decide) rfl rfl (by decide) (by decide) (fun _ => rfl) dX7_init_30 (fun q4 H w => ?_)
  refine r_putF (ws' := [(a0, .inr (7, [.ref q1, .ref q2, .ref q3, .ref q4, .int 0, .int 0, .int 0, .int 0])), (q1, .inl (T 0, 9, .inl (fun _ => 0))), (q2, .inl (T 0, 9, .inl (fun _ => 0))), (q3, .inl (T 0, 9, .inl (fun _ => 0))), (q4, .inl (T 0, 3, .inl (fun _ => 0)))]) M w 0 3 clX7 rfl (by decide) G227 rfl rfl hin rfl rfl rfl (Nat.le_of_ble_eq_true rfl) rfl dX7_init_32 (fun H locs w => ?_)
  refine lv_aload_n hx hb dX7_init_35 rfl (lv_at hl 0 rfl) ?_
  refine lv_iconst (v := 0) hx hb dX7_init_36 (by decide) ?_
  refine r_put (ws' := [(a0, .inr (7, [.ref q1, .ref q2, .ref q3, .ref q4, .int 0, .int 0, .int 0, .int 0])), (q1, .inl (T 0, 9, .inl (fun _ => 0))), (q2, .inl (T 0, 9, .inl (fun _ => 0))), (q3, .inl (T 0, 9, .inl (fun _ => 0))), (q4, .inl (T 0, 3, .inl (fun _ => 0)))]) M w 0 4 clX7 rfl (by decide) G229 rfl rfl rfl rfl (Nat.le_of_ble_eq_true rfl) rfl dX7_init_37 (fun H locs w => ?_)
  refine lv_aload_n hx hb dX7_init_40 rfl (lv_at hl 0 rfl) ?_
  refine lv_iconst (v := 0) hx hb dX7_init_41 (by decide) ?_
  refine r_put (ws' := [(a0, .inr (7, [.ref q1, .ref q2, .ref q3, .ref q4, .int 0, .int 0, .int 0, .int 0])), (q1, .inl (T 0, 9, .inl (fun _ => 0))), (q2, .inl (T 0, 9, .inl (fun _ => 0))), (q3, .inl (T 0, 9, .inl (fun _ => 0))), (q4, .inl (T 0, 3, .inl (fun _ => 0)))]) M w 0 5 clX7 rfl (by decide) G232 rfl rfl rfl rfl (Nat.le_of_ble_eq_true rfl) rfl dX7_init_42 (fun H locs w => ?_)
  refine lv_aload_n hx hb dX7_init_45 rfl (lv_at hl 0 rfl) ?_
  refine lv_iconst (v := 0) hx hb dX7_init_46 (by decide) ?_
  refine r_put (ws' := [(a0, .inr (7, [.ref q1, .ref q2, .ref q3, .ref q4, .int 0, .int 0, .int 0, .int 0])), (q1, .inl (T 0, 9, .inl (fun _ => 0))), (q2, .inl (T 0, 9, .inl (fun _ => 0))), (q3, .inl (T 0, 9, .inl (fun _ => 0))), (q4, .inl (T 0, 3, .inl (fun _ => 0)))]) M w 0 6 clX7 rfl (by decide) G234 rfl rfl rfl rfl (Nat.le_of_ble_eq_true rfl) rfl dX7_init_47 (fun H locs w => ?_)
  refine lv_aload_n hx hb dX7_init_50 rfl (lv_at hl 0 rfl) ?_
  refine lv_iconst (v := 0) hx hb dX7_init_51 (by decide) ?_
  refine r_put (ws' := [(a0, .inr (7, [.ref q1, .ref q2, .ref q3, .ref q4, .int 0, .int 0, .int 0, .int 0])), (q1, .inl (T 0, 9, .inl (fun _ => 0))), (q2, .inl (T 0, 9, .inl (fun _ => 0))), (q3, .inl (T 0, 9, .inl (fun _ => 0))), (q4, .inl (T 0, 3, .inl (fun _ => 0)))]) M w 0 7 clX7 rfl (by decide) G236 rfl rfl rfl rfl (Nat.le_of_ble_eq_true rfl) rfl dX7_init_52 (fun H locs w => ?_)
  exact ret (q1, q2, q3, q4) _ _ _ _ _ [0, 1, 2, 3, 4] dX7_init_55 trivial w (by decide) rfl
set_option maxRecDepth 100000 in
set_option maxHeartbeats 4000000 in
theorem c3_X6_init (l : Launch) (D : va_G) (T : Nat → ClassId) (sz : Nat) (a0 : Nat) : Met l yX6_init (Cond.code yX6_init cX6_init 1 none :: GW) (Rm 1 0 0) (cPre [.ref a0] D T [(a0, .inr (6, [.int 0, .int 0]))] sz) (qV D [(a0, .inr (6, [.int 0, .int 0]))] sz (fun (u : Unit) => True) (fun u => [(a0, .inr (6, [.int (-1), .int (-1)]))])) 0 0 (va_A [(a0, .inr (6, [.int 0, .int 0]))] sz) := by
  refine e_V (by decide) (Nat.le_of_ble_eq_true rfl) ?_
  intro p e s m args below meth c A Q ls M hin w ret hl
  have hx := M.1.1
  have hb := M.1.2.1
  have hl : lv_has ls 1 [(0, .ref a0)] := hl
  refine lv_aload_n hx hb dX6_init_0 rfl (lv_at hl 0 rfl) ?_
  refine r_obj M G314 G152 G153 hl.1 dX6_init_1 (by decide) (Nat.le_of_ble_eq_true rfl) ?_
  refine lv_aload_n hx hb dX6_init_4 rfl (lv_at hl 0 rfl) ?_
  refine lv_iconst (v := (-1)) hx hb dX6_init_5 (by decide) ?_
  refine r_put (ws' := [(a0, .inr (6, [.int (-1), .int 0]))]) M w 0 0 clX6 rfl (by decide) G315 rfl rfl rfl rfl (Nat.le_of_ble_eq_true rfl) rfl dX6_init_6 (fun H locs w => ?_)
  refine lv_aload_n hx hb dX6_init_9 rfl (lv_at hl 0 rfl) ?_
  refine lv_iconst (v := (-1)) hx hb dX6_init_10 (by decide) ?_
  refine r_put (ws' := [(a0, .inr (6, [.int (-1), .int (-1)]))]) M w 0 1 clX6 rfl (by decide) G317 rfl rfl rfl rfl (Nat.le_of_ble_eq_true rfl) rfl dX6_init_11 (fun H locs w => ?_)
  exact ret () _ _ _ _ _ [0] dX6_init_14 trivial w (by decide) rfl
set_option maxRecDepth 100000 in
set_option maxHeartbeats 4000000 in
theorem c4_X2_init (l : Launch) (D : va_G) (T : Nat → ClassId) (sz : Nat) (a0 : Nat) : Met l yX2_init (Cond.code yX2_init cX2_init 1 none :: GW) (Rm 1 1 23) (cPre [.ref a0] D T [(a0, .inr (2, [.null, .int 0]))] sz) (qV D [(a0, .inr (2, [.null, .int 0]))] sz (fun (u : Nat) => let n0 := u; True) (fun u => let n0 := u; [(a0, .inr (2, [.ref n0, .int 0])), (n0, .inl (T 0, 23, .inl (fun _ => 0)))])) 1 23 (va_A [(a0, .inr (2, [.null, .int 0]))] sz) := by
  refine e_V (by decide) (Nat.le_of_ble_eq_true rfl) ?_
  intro p e s m args below meth c A Q ls M hin w ret hl
  have hx := M.1.1
  have hb := M.1.2.1
  have hl : lv_has ls 1 [(0, .ref a0)] := hl
  refine lv_aload_n hx hb dX2_init_0 rfl (lv_at hl 0 rfl) ?_
  refine r_obj M G347 G152 G153 hl.1 dX2_init_1 (by decide) (Nat.le_of_ble_eq_true rfl) ?_
  refine lv_aload_n hx hb dX2_init_4 rfl (lv_at hl 0 rfl) ?_
  refine lv_bipush (v := 23) hx hb dX2_init_5 (by decide) ?_
  refine r_newai (N := 23) (ce := 1) (sl := 23) (ws' := fun q1 => [(a0, .inr (2, [.null, .int 0])), (q1, .inl (T 0, 23, .inl (fun _ => 0)))]) M w G208 (by decide) (by decide +kernel) (by decide) rfl rfl (by decide) (by decide) (fun _ => rfl) dX2_init_7 (fun q1 H w => ?_)
  refine r_putF (ws' := [(a0, .inr (2, [.ref q1, .int 0])), (q1, .inl (T 0, 23, .inl (fun _ => 0)))]) M w 0 0 clX2 rfl (by decide) G348 rfl rfl hin rfl rfl rfl (Nat.le_of_ble_eq_true rfl) rfl dX2_init_9 (fun H locs w => ?_)
  refine lv_aload_n hx hb dX2_init_12 rfl (lv_at hl 0 rfl) ?_
  refine lv_iconst (v := 0) hx hb dX2_init_13 (by decide) ?_
  refine r_put (ws' := [(a0, .inr (2, [.ref q1, .int 0])), (q1, .inl (T 0, 23, .inl (fun _ => 0)))]) M w 0 1 clX2 rfl (by decide) G350 rfl rfl rfl rfl (Nat.le_of_ble_eq_true rfl) rfl dX2_init_14 (fun H locs w => ?_)
  exact ret q1 _ _ _ _ _ [0, 1] dX2_init_17 trivial w (by decide) rfl
set_option maxRecDepth 100000 in
set_option maxHeartbeats 4000000 in
theorem c5_X0_init (l : Launch) (D : va_G) (T : Nat → ClassId) (sz : Nat) (a0 : Nat) : Met l yX0_init (Cond.code yX0_init cX0_init 1 none :: GW) (Rm 1 5 164) (cPre [.ref a0] D T [(a0, .inr (0, [.null, .null, .null, .null, .null, .int 0]))] sz) (qV D [(a0, .inr (0, [.null, .null, .null, .null, .null, .int 0]))] sz (fun (u : Nat × Nat × Nat × Nat × Nat) => let n0 := u.1; let n1 := u.2.1; let n2 := u.2.2.1; let n3 := u.2.2.2.1; let n4 := u.2.2.2.2; True) (fun u => let n0 := u.1; let n1 := u.2.1; let n2 := u.2.2.1; let n3 := u.2.2.2.1; let n4 := u.2.2.2.2; [(a0, .inr (0, [.ref n0, .ref n1, .ref n2, .ref n3, .ref n4, .int 0])), (n0, .inl (T 5, 40, .inr (.inr (.inr (.inr (fun _ => none)))))), (n1, .inl (T 0, 40, .inl (fun _ => 0))), (n2, .inl (T 0, 40, .inl (fun _ => 0))), (n3, .inl (T 0, 40, .inl (fun _ => 0))), (n4, .inl (T 0, 4, .inl (upd (upd (upd (upd (fun _ => 0) (Int32.toNatClampNeg (0 : Int32)) (-1 : Int32)) (Int32.toNatClampNeg (1 : Int32)) (-1 : Int32)) (Int32.toNatClampNeg (2 : Int32)) (-1 : Int32)) (Int32.toNatClampNeg (3 : Int32)) (-1 : Int32))))])) 5 164 (va_A [(a0, .inr (0, [.null, .null, .null, .null, .null, .int 0]))] sz) := by
  refine e_V (by decide) (Nat.le_of_ble_eq_true rfl) ?_
  intro p e s m args below meth c A Q ls M hin w ret hl
  have hx := M.1.1
  have hb := M.1.2.1
  have hl : lv_has ls 1 [(0, .ref a0)] := hl
  refine lv_aload_n hx hb dX0_init_0 rfl (lv_at hl 0 rfl) ?_
  refine r_obj M G260 G152 G153 hl.1 dX0_init_1 (by decide) (Nat.le_of_ble_eq_true rfl) ?_
  refine lv_aload_n hx hb dX0_init_4 rfl (lv_at hl 0 rfl) ?_
  refine lv_bipush (v := 40) hx hb dX0_init_5 (by decide) ?_
  refine r_newq (N := 40) (t0 := 5) (ce := 1) (sl := 40) (ws' := fun q1 => [(a0, .inr (0, [.null, .null, .null, .null, .null, .int 0])), (q1, .inl (T 5, 40, .inr (.inr (.inr (.inr (fun _ => none))))))]) M w G261 N262 rfl (by decide) (by decide +kernel) (by decide) rfl rfl (by decide) (by decide) (fun _ => rfl) dX0_init_7 (fun q1 H w => ?_)
  refine r_putF (ws' := [(a0, .inr (0, [.ref q1, .null, .null, .null, .null, .int 0])), (q1, .inl (T 5, 40, .inr (.inr (.inr (.inr (fun _ => none))))))]) M w 0 0 clX0 rfl (by decide) G263 rfl rfl hin rfl rfl rfl (Nat.le_of_ble_eq_true rfl) rfl dX0_init_10 (fun H locs w => ?_)
  refine lv_aload_n hx hb dX0_init_13 rfl (lv_at hl 0 rfl) ?_
  refine lv_bipush (v := 40) hx hb dX0_init_14 (by decide) ?_
  refine r_newai (N := 40) (ce := 2) (sl := 80) (ws' := fun q2 => [(a0, .inr (0, [.ref q1, .null, .null, .null, .null, .int 0])), (q1, .inl (T 5, 40, .inr (.inr (.inr (.inr (fun _ => none)))))), (q2, .inl (T 0, 40, .inl (fun _ => 0)))]) M w G208 (by decide) (by decide +kernel) (by decide) rfl rfl (by decide) (by decide) (fun _ => rfl) dX0_init_16 (fun q2 H w => ?_)
  refine r_putF (ws' := [(a0, .inr (0, [.ref q1, .ref q2, .null, .null, .null, .int 0])), (q1, .inl (T 5, 40, .inr (.inr (.inr (.inr (fun _ => none)))))), (q2, .inl (T 0, 40, .inl (fun _ => 0)))]) M w 0 1 clX0 rfl (by decide) G264 rfl rfl hin rfl rfl rfl (Nat.le_of_ble_eq_true rfl) rfl dX0_init_18 (fun H locs w => ?_)
  refine lv_aload_n hx hb dX0_init_21 rfl (lv_at hl 0 rfl) ?_
  refine lv_bipush (v := 40) hx hb dX0_init_22 (by decide) ?_
  refine r_newai (N := 40) (ce := 3) (sl := 120) (ws' := fun q3 => [(a0, .inr (0, [.ref q1, .ref q2, .null, .null, .null, .int 0])), (q1, .inl (T 5, 40, .inr (.inr (.inr (.inr (fun _ => none)))))), (q2, .inl (T 0, 40, .inl (fun _ => 0))), (q3, .inl (T 0, 40, .inl (fun _ => 0)))]) M w G208 (by decide) (by decide +kernel) (by decide) rfl rfl (by decide) (by decide) (fun _ => rfl) dX0_init_24 (fun q3 H w => ?_)
  refine r_putF (ws' := [(a0, .inr (0, [.ref q1, .ref q2, .ref q3, .null, .null, .int 0])), (q1, .inl (T 5, 40, .inr (.inr (.inr (.inr (fun _ => none)))))), (q2, .inl (T 0, 40, .inl (fun _ => 0))), (q3, .inl (T 0, 40, .inl (fun _ => 0)))]) M w 0 2 clX0 rfl (by decide) G265 rfl rfl hin rfl rfl rfl (Nat.le_of_ble_eq_true rfl) rfl dX0_init_26 (fun H locs w => ?_)
  refine lv_aload_n hx hb dX0_init_29 rfl (lv_at hl 0 rfl) ?_
  refine lv_bipush (v := 40) hx hb dX0_init_30 (by decide) ?_
  refine r_newai (N := 40) (ce := 4) (sl := 160) (ws' := fun q4 => [(a0, .inr (0, [.ref q1, .ref q2, .ref q3, .null, .null, .int 0])), (q1, .inl (T 5, 40, .inr (.inr (.inr (.inr (fun _ => none)))))), (q2, .inl (T 0, 40, .inl (fun _ => 0))), (q3, .inl (T 0, 40, .inl (fun _ => 0))), (q4, .inl (T 0, 40, .inl (fun _ => 0)))]) M w G208 (by decide) (by decide +kernel) (by decide) rfl rfl (by decide) (by decide) (fun _ => rfl) dX0_init_32 (fun q4 H w => ?_)
  refine r_putF (ws' := [(a0, .inr (0, [.ref q1, .ref q2, .ref q3, .ref q4, .null, .int 0])), (q1, .inl (T 5, 40, .inr (.inr (.inr (.inr (fun _ => none)))))), (q2, .inl (T 0, 40, .inl (fun _ => 0))), (q3, .inl (T 0, 40, .inl (fun _ => 0))), (q4, .inl (T 0, 40, .inl (fun _ => 0)))]) M w 0 3 clX0 rfl (by decide) G266 rfl rfl hin rfl rfl rfl (Nat.le_of_ble_eq_true rfl) rfl dX0_init_34 (fun H locs w => ?_)
  refine lv_aload_n hx hb dX0_init_37 rfl (lv_at hl 0 rfl) ?_
  refine lv_iconst (v := 4) hx hb dX0_init_38 (by decide) ?_
  refine r_newai (N := 4) (ce := 5) (sl := 164) (ws' := fun q5 => [(a0, .inr (0, [.ref q1, .ref q2, .ref q3, .ref q4, .null, .int 0])), (q1, .inl (T 5, 40, .inr (.inr (.inr (.inr (fun _ => none)))))), (q2, .inl (T 0, 40, .inl (fun _ => 0))), (q3, .inl (T 0, 40, .inl (fun _ => 0))), (q4, .inl (T 0, 40, .inl (fun _ => 0))), (q5, .inl (T 0, 4, .inl (fun _ => 0)))]) M w G208 (by decide) (by decide +kernel) (by decide) rfl rfl (by decide) (by decide) (fun _ => rfl) dX0_init_39 (fun q5 H w => ?_)
  refine lv_dup hx hb dX0_init_41 rfl ?_
  refine lv_iconst (v := 0) hx hb dX0_init_42 (by decide) ?_
  refine lv_iconst (v := (-1)) hx hb dX0_init_43 (by decide) ?_
  refine r_iast (ws' := [(a0, .inr (0, [.ref q1, .ref q2, .ref q3, .ref q4, .null, .int 0])), (q1, .inl (T 5, 40, .inr (.inr (.inr (.inr (fun _ => none)))))), (q2, .inl (T 0, 40, .inl (fun _ => 0))), (q3, .inl (T 0, 40, .inl (fun _ => 0))), (q4, .inl (T 0, 40, .inl (fun _ => 0))), (q5, .inl (T 0, 4, .inl (upd (fun _ => 0) (Int32.toNatClampNeg (0 : Int32)) (-1 : Int32))))]) M w 5 rfl (vin (by decide +kernel)) rfl dX0_init_44 (fun H locs w => ?_)
  refine lv_dup hx hb dX0_init_45 rfl ?_
  refine lv_iconst (v := 1) hx hb dX0_init_46 (by decide) ?_
  refine lv_iconst (v := (-1)) hx hb dX0_init_47 (by decide) ?_
  refine r_iast (ws' := [(a0, .inr (0, [.ref q1, .ref q2, .ref q3, .ref q4, .null, .int 0])), (q1, .inl (T 5, 40, .inr (.inr (.inr (.inr (fun _ => none)))))), (q2, .inl (T 0, 40, .inl (fun _ => 0))), (q3, .inl (T 0, 40, .inl (fun _ => 0))), (q4, .inl (T 0, 40, .inl (fun _ => 0))), (q5, .inl (T 0, 4, .inl (upd (upd (fun _ => 0) (Int32.toNatClampNeg (0 : Int32)) (-1 : Int32)) (Int32.toNatClampNeg (1 : Int32)) (-1 : Int32))))]) M w 5 rfl (vin (by decide +kernel)) rfl dX0_init_48 (fun H locs w => ?_)
  refine lv_dup hx hb dX0_init_49 rfl ?_
  refine lv_iconst (v := 2) hx hb dX0_init_50 (by decide) ?_
  refine lv_iconst (v := (-1)) hx hb dX0_init_51 (by decide) ?_
  refine r_iast (ws' := [(a0, .inr (0, [.ref q1, .ref q2, .ref q3, .ref q4, .null, .int 0])), (q1, .inl (T 5, 40, .inr (.inr (.inr (.inr (fun _ => none)))))), (q2, .inl (T 0, 40, .inl (fun _ => 0))), (q3, .inl (T 0, 40, .inl (fun _ => 0))), (q4, .inl (T 0, 40, .inl (fun _ => 0))), (q5, .inl (T 0, 4, .inl (upd (upd (upd (fun _ => 0) (Int32.toNatClampNeg (0 : Int32)) (-1 : Int32)) (Int32.toNatClampNeg (1 : Int32)) (-1 : Int32)) (Int32.toNatClampNeg (2 : Int32)) (-1 : Int32))))]) M w 5 rfl (vin (by decide +kernel)) rfl dX0_init_52 (fun H locs w => ?_)
  refine lv_dup hx hb dX0_init_53 rfl ?_
  refine lv_iconst (v := 3) hx hb dX0_init_54 (by decide) ?_
  refine lv_iconst (v := (-1)) hx hb dX0_init_55 (by decide) ?_
  refine r_iast (ws' := [(a0, .inr (0, [.ref q1, .ref q2, .ref q3, .ref q4, .null, .int 0])), (q1, .inl (T 5, 40, .inr (.inr (.inr (.inr (fun _ => none)))))), (q2, .inl (T 0, 40, .inl (fun _ => 0))), (q3, .inl (T 0, 40, .inl (fun _ => 0))), (q4, .inl (T 0, 40, .inl (fun _ => 0))), (q5, .inl (T 0, 4, .inl (upd (upd (upd (upd (fun _ => 0) (Int32.toNatClampNeg (0 : Int32)) (-1 : Int32)) (Int32.toNatClampNeg (1 : Int32)) (-1 : Int32)) (Int32.toNatClampNeg (2 : Int32)) (-1 : Int32)) (Int32.toNatClampNeg (3 : Int32)) (-1 : Int32))))]) M w 5 rfl (vin (by decide +kernel)) rfl dX0_init_56 (fun H locs w => ?_)
  refine r_putF (ws' := [(a0, .inr (0, [.ref q1, .ref q2, .ref q3, .ref q4, .ref q5, .int 0])), (q1, .inl (T 5, 40, .inr (.inr (.inr (.inr (fun _ => none)))))), (q2, .inl (T 0, 40, .inl (fun _ => 0))), (q3, .inl (T 0, 40, .inl (fun _ => 0))), (q4, .inl (T 0, 40, .inl (fun _ => 0))), (q5, .inl (T 0, 4, .inl (upd (upd (upd (upd (fun _ => 0) (Int32.toNatClampNeg (0 : Int32)) (-1 : Int32)) (Int32.toNatClampNeg (1 : Int32)) (-1 : Int32)) (Int32.toNatClampNeg (2 : Int32)) (-1 : Int32)) (Int32.toNatClampNeg (3 : Int32)) (-1 : Int32))))]) M w 0 4 clX0 rfl (by decide) G267 rfl rfl hin rfl rfl rfl (Nat.le_of_ble_eq_true rfl) rfl dX0_init_57 (fun H locs w => ?_)
  refine lv_aload_n hx hb dX0_init_60 rfl (lv_at hl 0 rfl) ?_
  refine lv_iconst (v := 0) hx hb dX0_init_61 (by decide) ?_
  refine r_put (ws' := [(a0, .inr (0, [.ref q1, .ref q2, .ref q3, .ref q4, .ref q5, .int 0])), (q1, .inl (T 5, 40, .inr (.inr (.inr (.inr (fun _ => none)))))), (q2, .inl (T 0, 40, .inl (fun _ => 0))), (q3, .inl (T 0, 40, .inl (fun _ => 0))), (q4, .inl (T 0, 40, .inl (fun _ => 0))), (q5, .inl (T 0, 4, .inl (upd (upd (upd (upd (fun _ => 0) (Int32.toNatClampNeg (0 : Int32)) (-1 : Int32)) (Int32.toNatClampNeg (1 : Int32)) (-1 : Int32)) (Int32.toNatClampNeg (2 : Int32)) (-1 : Int32)) (Int32.toNatClampNeg (3 : Int32)) (-1 : Int32))))]) M w 0 5 clX0 rfl (by decide) G269 rfl rfl rfl rfl (Nat.le_of_ble_eq_true rfl) rfl dX0_init_62 (fun H locs w => ?_)
  exact ret (q1, q2, q3, q4, q5) _ _ _ _ _ [0, 1, 2, 3, 4, 5] dX0_init_65 trivial w (by decide) rfl
set_option maxRecDepth 100000 in
set_option maxHeartbeats 4000000 in
theorem c6_X4_init (l : Launch) (D : va_G) (T : Nat → ClassId) (sz : Nat) (a0 : Nat) : Met l yX4_init (Cond.code yX4_init cX4_init 1 none :: GW) (Rm 1 2 18) (cPre [.ref a0] D T [(a0, .inr (4, [.null, .null, .int 0]))] sz) (qV D [(a0, .inr (4, [.null, .null, .int 0]))] sz (fun (u : Nat × Nat) => let n0 := u.1; let n1 := u.2; True) (fun u => let n0 := u.1; let n1 := u.2; [(a0, .inr (4, [.ref n0, .ref n1, .int 0])), (n0, .inl (T 0, 9, .inl (fun _ => 0))), (n1, .inl (T 0, 9, .inl (fun _ => 0)))])) 2 18 (va_A [(a0, .inr (4, [.null, .null, .int 0]))] sz) := by
  refine e_V (by decide) (Nat.le_of_ble_eq_true rfl) ?_
  intro p e s m args below meth c A Q ls M hin w ret hl
  have hx := M.1.1
  have hb := M.1.2.1
  have hl : lv_has ls 1 [(0, .ref a0)] := hl
  refine lv_aload_n hx hb dX4_init_0 rfl (lv_at hl 0 rfl) ?_
  refine r_obj M G329 G152 G153 hl.1 dX4_init_1 (by decide) (Nat.le_of_ble_eq_true rfl) ?_
  refine lv_aload_n hx hb dX4_init_4 rfl (lv_at hl 0 rfl) ?_
  refine lv_bipush (v := 9) hx hb dX4_init_5 (by decide) ?_
  refine r_newai (N := 9) (ce := 1) (sl := 9) (ws' := fun q1 => [(a0, .inr (4, [.null, .null, .int 0])), (q1, .inl (T 0, 9, .inl (fun _ => 0)))]) M w G208 (by decide) (by decide +kernel) (by decide) rfl rfl (by decide) (by decide) (fun _ => rfl) dX4_init_7 (fun q1 H w => ?_)
  refine r_putF (ws' := [(a0, .inr (4, [.ref q1, .null, .int 0])), (q1, .inl (T 0, 9, .inl (fun _ => 0)))]) M w 0 0 clX4 rfl (by decide) G330 rfl rfl hin rfl rfl rfl (Nat.le_of_ble_eq_true rfl) rfl dX4_init_9 (fun H locs w => ?_)
  refine lv_aload_n hx hb dX4_init_12 rfl (lv_at hl 0 rfl) ?_
  refine lv_bipush (v := 9) hx hb dX4_init_13 (by decide) ?_
  refine r_newai (N := 9) (ce := 2) (sl := 18) (ws' := fun q2 => [(a0, .inr (4, [.ref q1, .null, .int 0])), (q1, .inl (T 0, 9, .inl (fun _ => 0))), (q2, .inl (T 0, 9, .inl (fun _ => 0)))]) M w G208 (by decide) (by decide +kernel) (by decide) rfl rfl (by decide) (by decide) (fun _ => rfl) dX4_init_15 (fun q2 H w => ?_)
  refine r_putF (ws' := [(a0, .inr (4, [.ref q1, .ref q2, .int 0])), (q1, .inl (T 0, 9, .inl (fun _ => 0))), (q2, .inl (T 0, 9, .inl (fun _ => 0)))]) M w 0 1 clX4 rfl (by decide) G332 rfl rfl hin rfl rfl rfl (Nat.le_of_ble_eq_true rfl) rfl dX4_init_17 (fun H locs w => ?_)
  refine lv_aload_n hx hb dX4_init_20 rfl (lv_at hl 0 rfl) ?_
  refine lv_iconst (v := 0) hx hb dX4_init_21 (by decide) ?_
  refine r_put (ws' := [(a0, .inr (4, [.ref q1, .ref q2, .int 0])), (q1, .inl (T 0, 9, .inl (fun _ => 0))), (q2, .inl (T 0, 9, .inl (fun _ => 0)))]) M w 0 2 clX4 rfl (by decide) G333 rfl rfl rfl rfl (Nat.le_of_ble_eq_true rfl) rfl dX4_init_22 (fun H locs w => ?_)
  exact ret (q1, q2) _ _ _ _ _ [0, 1, 2] dX4_init_25 trivial w (by decide) rfl
set_option maxRecDepth 100000 in
set_option maxHeartbeats 4000000 in
theorem c7_X9_init (l : Launch) (D : va_G) (T : Nat → ClassId) (sz : Nat) (a0 : Nat) : Met l yX9_init (Cond.code yX9_init cX9_init 1 none :: GW) (Rm 1 9 69) (cPre [.ref a0] D T [(a0, .inr (9, [.null, .null, .null, .null, .null, .null, .null, .null, .null, .int 0, .int 0, .int 0, .int 0, .int 0, .int 0, .int 0, .int 0, .int 0]))] sz) (qV D [(a0, .inr (9, [.null, .null, .null, .null, .null, .null, .null, .null, .null, .int 0, .int 0, .int 0, .int 0, .int 0, .int 0, .int 0, .int 0, .int 0]))] sz (fun (u : Nat × Nat × Nat × Nat × Nat × Nat × Nat × Nat × Nat) => let n0 := u.1; let n1 := u.2.1; let n2 := u.2.2.1; let n3 := u.2.2.2.1; let n4 := u.2.2.2.2.1; let n5 := u.2.2.2.2.2.1; let n6 := u.2.2.2.2.2.2.1; let n7 := u.2.2.2.2.2.2.2.1; let n8 := u.2.2.2.2.2.2.2.2; True) (fun u => let n0 := u.1; let n1 := u.2.1; let n2 := u.2.2.1; let n3 := u.2.2.2.1; let n4 := u.2.2.2.2.1; let n5 := u.2.2.2.2.2.1; let n6 := u.2.2.2.2.2.2.1; let n7 := u.2.2.2.2.2.2.2.1; let n8 := u.2.2.2.2.2.2.2.2; [(a0, .inr (9, [.ref n0, .ref n1, .ref n2, .ref n3, .ref n4, .ref n5, .ref n6, .ref n7, .ref n8, .int 0, .int 0, .int 0, .int 0, .int 12, .int 1, .int 0, .int 0, .int 0])), (n0, .inl (T 1, 9, .inr (.inl (fun _ => 0)))), (n1, .inl (T 0, 9, .inl (fun _ => 0))), (n2, .inl (T 0, 9, .inl (fun _ => 0))), (n3, .inl (T 0, 9, .inl (fun _ => 0))), (n4, .inl (T 0, 9, .inl (fun _ => 0))), (n5, .inl (T 0, 9, .inl (fun _ => 0))), (n6, .inl (T 0, 9, .inl (fun _ => 0))), (n7, .inl (T 1, 3, .inr (.inl (fun _ => 0)))), (n8, .inl (T 0, 3, .inl (fun _ => 0)))])) 9 69 (va_A [(a0, .inr (9, [.null, .null, .null, .null, .null, .null, .null, .null, .null, .int 0, .int 0, .int 0, .int 0, .int 0, .int 0, .int 0, .int 0, .int 0]))] sz) := by
  refine e_V (by decide) (Nat.le_of_ble_eq_true rfl) ?_
  intro p e s m args below meth c A Q ls M hin w ret hl
  have hx := M.1.1
  have hb := M.1.2.1
  have hl : lv_has ls 1 [(0, .ref a0)] := hl
  refine lv_aload_n hx hb dX9_init_0 rfl (lv_at hl 0 rfl) ?_
  refine r_obj M G365 G152 G153 hl.1 dX9_init_1 (by decide) (Nat.le_of_ble_eq_true rfl) ?_
  refine lv_aload_n hx hb dX9_init_4 rfl (lv_at hl 0 rfl) ?_
  refine lv_bipush (v := 9) hx hb dX9_init_5 (by decide) ?_
  refine r_newal (N := 9) (ce := 1) (sl := 9) (ws' := fun q1 => [(a0, .inr (9, [.null, .null, .null, .null, .null, .null, .null, .null, .null, .int 0, .int 0, .int 0, .int 0, .int 0, .int 0, .int 0, .int 0, .int 0])), (q1, .inl (T 1, 9, .inr (.inl (fun _ => 0))))]) M w G444 (by decide) (by decide +kernel) (by decide) rfl rfl (by decide) (by decide) (fun _ => rfl) dX9_init_7 (fun q1 H w => ?_)
  refine r_putF (ws' := [(a0, .inr (9, [.ref q1, .null, .null, .null, .null, .null, .null, .null, .null, .int 0, .int 0, .int 0, .int 0, .int 0, .int 0, .int 0, .int 0, .int 0])), (q1, .inl (T 1, 9, .inr (.inl (fun _ => 0))))]) M w 0 0 clX9 rfl (by decide) G366 rfl rfl hin rfl rfl rfl (Nat.le_of_ble_eq_true rfl) rfl dX9_init_9 (fun H locs w => ?_)
  refine lv_aload_n hx hb dX9_init_12 rfl (lv_at hl 0 rfl) ?_
  refine lv_bipush (v := 9) hx hb dX9_init_13 (by decide) ?_
  refine r_newai (N := 9) (ce := 2) (sl := 18) (ws' := fun q2 => [(a0, .inr (9, [.ref q1, .null, .null, .null, .null, .null, .null, .null, .null, .int 0, .int 0, .int 0, .int 0, .int 0, .int 0, .int 0, .int 0, .int 0])), (q1, .inl (T 1, 9, .inr (.inl (fun _ => 0)))), (q2, .inl (T 0, 9, .inl (fun _ => 0)))]) M w G208 (by decide) (by decide +kernel) (by decide) rfl rfl (by decide) (by decide) (fun _ => rfl) dX9_init_15 (fun q2 H w => ?_)
  refine r_putF (ws' := [(a0, .inr (9, [.ref q1, .ref q2, .null, .null, .null, .null, .null, .null, .null, .int 0, .int 0, .int 0, .int 0, .int 0, .int 0, .int 0, .int 0, .int 0])), (q1, .inl (T 1, 9, .inr (.inl (fun _ => 0)))), (q2, .inl (T 0, 9, .inl (fun _ => 0)))]) M w 0 1 clX9 rfl (by decide) G368 rfl rfl hin rfl rfl rfl (Nat.le_of_ble_eq_true rfl) rfl dX9_init_17 (fun H locs w => ?_)
  refine lv_aload_n hx hb dX9_init_20 rfl (lv_at hl 0 rfl) ?_
  refine lv_bipush (v := 9) hx hb dX9_init_21 (by decide) ?_
  refine r_newai (N := 9) (ce := 3) (sl := 27) (ws' := fun q3 => [(a0, .inr (9, [.ref q1, .ref q2, .null, .null, .null, .null, .null, .null, .null, .int 0, .int 0, .int 0, .int 0, .int 0, .int 0, .int 0, .int 0, .int 0])), (q1, .inl (T 1, 9, .inr (.inl (fun _ => 0)))), (q2, .inl (T 0, 9, .inl (fun _ => 0))), (q3, .inl (T 0, 9, .inl (fun _ => 0)))]) M w G208 (by decide) (by decide +kernel) (by decide) rfl rfl (by decide) (by decide) (fun _ => rfl) dX9_init_23 (fun q3 H w => ?_)
  refine r_putF (ws' := [(a0, .inr (9, [.ref q1, .ref q2, .ref q3, .null, .null, .null, .null, .null, .null, .int 0, .int 0, .int 0, .int 0, .int 0, .int 0, .int 0, .int 0, .int 0])), (q1, .inl (T 1, 9, .inr (.inl (fun _ => 0)))), (q2, .inl (T 0, 9, .inl (fun _ => 0))), (q3, .inl (T 0, 9, .inl (fun _ => 0)))]) M w 0 2 clX9 rfl (by decide) G370 rfl rfl hin rfl rfl rfl (Nat.le_of_ble_eq_true rfl) rfl dX9_init_25 (fun H locs w => ?_)
  refine lv_aload_n hx hb dX9_init_28 rfl (lv_at hl 0 rfl) ?_
  refine lv_bipush (v := 9) hx hb dX9_init_29 (by decide) ?_
  refine r_newai (N := 9) (ce := 4) (sl := 36) (ws' := fun q4 => [(a0, .inr (9, [.ref q1, .ref q2, .ref q3, .null, .null, .null, .null, .null, .null, .int 0, .int 0, .int 0, .int 0, .int 0, .int 0, .int 0, .int 0, .int 0])), (q1, .inl (T 1, 9, .inr (.inl (fun _ => 0)))), (q2, .inl (T 0, 9, .inl (fun _ => 0))), (q3, .inl (T 0, 9, .inl (fun _ => 0))), (q4, .inl (T 0, 9, .inl (fun _ => 0)))]) M w G208 (by decide) (by decide +kernel) (by decide) rfl rfl (by decide) (by decide) (fun _ => rfl) dX9_init_31 (fun q4 H w => ?_)
  refine r_putF (ws' := [(a0, .inr (9, [.ref q1, .ref q2, .ref q3, .ref q4, .null, .null, .null, .null, .null, .int 0, .int 0, .int 0, .int 0, .int 0, .int 0, .int 0, .int 0, .int 0])), (q1, .inl (T 1, 9, .inr (.inl (fun _ => 0)))), (q2, .inl (T 0, 9, .inl (fun _ => 0))), (q3, .inl (T 0, 9, .inl (fun _ => 0))), (q4, .inl (T 0, 9, .inl (fun _ => 0)))]) M w 0 3 clX9 rfl (by decide) G372 rfl rfl hin rfl rfl rfl (Nat.le_of_ble_eq_true rfl) rfl dX9_init_33 (fun H locs w => ?_)
  refine lv_aload_n hx hb dX9_init_36 rfl (lv_at hl 0 rfl) ?_
  refine lv_bipush (v := 9) hx hb dX9_init_37 (by decide) ?_
  refine r_newai (N := 9) (ce := 5) (sl := 45) (ws' := fun q5 => [(a0, .inr (9, [.ref q1, .ref q2, .ref q3, .ref q4, .null, .null, .null, .null, .null, .int 0, .int 0, .int 0, .int 0, .int 0, .int 0, .int 0, .int 0, .int 0])), (q1, .inl (T 1, 9, .inr (.inl (fun _ => 0)))), (q2, .inl (T 0, 9, .inl (fun _ => 0))), (q3, .inl (T 0, 9, .inl (fun _ => 0))), (q4, .inl (T 0, 9, .inl (fun _ => 0))), (q5, .inl (T 0, 9, .inl (fun _ => 0)))]) M w G208 (by decide) (by decide +kernel) (by decide) rfl rfl (by decide) (by decide) (fun _ => rfl) dX9_init_39 (fun q5 H w => ?_)
  refine r_putF (ws' := [(a0, .inr (9, [.ref q1, .ref q2, .ref q3, .ref q4, .ref q5, .null, .null, .null, .null, .int 0, .int 0, .int 0, .int 0, .int 0, .int 0, .int 0, .int 0, .int 0])), (q1, .inl (T 1, 9, .inr (.inl (fun _ => 0)))), (q2, .inl (T 0, 9, .inl (fun _ => 0))), (q3, .inl (T 0, 9, .inl (fun _ => 0))), (q4, .inl (T 0, 9, .inl (fun _ => 0))), (q5, .inl (T 0, 9, .inl (fun _ => 0)))]) M w 0 4 clX9 rfl (by decide) G375 rfl rfl hin rfl rfl rfl (Nat.le_of_ble_eq_true rfl) rfl dX9_init_41 (fun H locs w => ?_)
  refine lv_aload_n hx hb dX9_init_44 rfl (lv_at hl 0 rfl) ?_
  refine lv_bipush (v := 9) hx hb dX9_init_45 (by decide) ?_
  refine r_newai (N := 9) (ce := 6) (sl := 54) (ws' := fun q6 => [(a0, .inr (9, [.ref q1, .ref q2, .ref q3, .ref q4, .ref q5, .null, .null, .null, .null, .int 0, .int 0, .int 0, .int 0, .int 0, .int 0, .int 0, .int 0, .int 0])), (q1, .inl (T 1, 9, .inr (.inl (fun _ => 0)))), (q2, .inl (T 0, 9, .inl (fun _ => 0))), (q3, .inl (T 0, 9, .inl (fun _ => 0))), (q4, .inl (T 0, 9, .inl (fun _ => 0))), (q5, .inl (T 0, 9, .inl (fun _ => 0))), (q6, .inl (T 0, 9, .inl (fun _ => 0)))]) M w G208 (by decide) (by decide +kernel) (by decide) rfl rfl (by decide) (by decide) (fun _ => rfl) dX9_init_47 (fun q6 H w => ?_)
  refine r_putF (ws' := [(a0, .inr (9, [.ref q1, .ref q2, .ref q3, .ref q4, .ref q5, .ref q6, .null, .null, .null, .int 0, .int 0, .int 0, .int 0, .int 0, .int 0, .int 0, .int 0, .int 0])), (q1, .inl (T 1, 9, .inr (.inl (fun _ => 0)))), (q2, .inl (T 0, 9, .inl (fun _ => 0))), (q3, .inl (T 0, 9, .inl (fun _ => 0))), (q4, .inl (T 0, 9, .inl (fun _ => 0))), (q5, .inl (T 0, 9, .inl (fun _ => 0))), (q6, .inl (T 0, 9, .inl (fun _ => 0)))]) M w 0 5 clX9 rfl (by decide) G379 rfl rfl hin rfl rfl rfl (Nat.le_of_ble_eq_true rfl) rfl dX9_init_49 (fun H locs w => ?_)
  refine lv_aload_n hx hb dX9_init_52 rfl (lv_at hl 0 rfl) ?_
  refine lv_bipush (v := 9) hx hb dX9_init_53 (by decide) ?_
  refine r_newai (N := 9) (ce := 7) (sl := 63) (ws' := fun q7 => [(a0, .inr (9, [.ref q1, .ref q2, .ref q3, .ref q4, .ref q5, .ref q6, .null, .null, .null, .int 0, .int 0, .int 0, .int 0, .int 0, .int 0, .int 0, .int 0, .int 0])), (q1, .inl (T 1, 9, .inr (.inl (fun _ => 0)))), (q2, .inl (T 0, 9, .inl (fun _ => 0))), (q3, .inl (T 0, 9, .inl (fun _ => 0))), (q4, .inl (T 0, 9, .inl (fun _ => 0))), (q5, .inl (T 0, 9, .inl (fun _ => 0))), (q6, .inl (T 0, 9, .inl (fun _ => 0))), (q7, .inl (T 0, 9, .inl (fun _ => 0)))]) M w G208 (by decide) (by decide +kernel) (by decide) rfl rfl (by decide) (by decide) (fun _ => rfl) dX9_init_55 (fun q7 H w => ?_)
  refine r_putF (ws' := [(a0, .inr (9, [.ref q1, .ref q2, .ref q3, .ref q4, .ref q5, .ref q6, .ref q7, .null, .null, .int 0, .int 0, .int 0, .int 0, .int 0, .int 0, .int 0, .int 0, .int 0])), (q1, .inl (T 1, 9, .inr (.inl (fun _ => 0)))), (q2, .inl (T 0, 9, .inl (fun _ => 0))), (q3, .inl (T 0, 9, .inl (fun _ => 0))), (q4, .inl (T 0, 9, .inl (fun _ => 0))), (q5, .inl (T 0, 9, .inl (fun _ => 0))), (q6, .inl (T 0, 9, .inl (fun _ => 0))), (q7, .inl (T 0, 9, .inl (fun _ => 0)))]) M w 0 6 clX9 rfl (by decide) G381 rfl rfl hin rfl rfl rfl (Nat.le_of_ble_eq_true rfl) rfl dX9_init_57 (fun H locs w => ?_)
  refine lv_aload_n hx hb dX9_init_60 rfl (lv_at hl 0 rfl) ?_
  refine lv_iconst (v := 3) hx hb dX9_init_61 (by decide) ?_
  refine r_newal (N := 3) (ce := 8) (sl := 66) (ws' := fun q8 => [(a0, .inr (9, [.ref q1, .ref q2, .ref q3, .ref q4, .ref q5, .ref q6, .ref q7, .null, .null, .int 0, .int 0, .int 0, .int 0, .int 0, .int 0, .int 0, .int 0, .int 0])), (q1, .inl (T 1, 9, .inr (.inl (fun _ => 0)))), (q2, .inl (T 0, 9, .inl (fun _ => 0))), (q3, .inl (T 0, 9, .inl (fun _ => 0))), (q4, .inl (T 0, 9, .inl (fun _ => 0))), (q5, .inl (T 0, 9, .inl (fun _ => 0))), (q6, .inl (T 0, 9, .inl (fun _ => 0))), (q7, .inl (T 0, 9, .inl (fun _ => 0))), (q8, .inl (T 1, 3, .inr (.inl (fun _ => 0))))]) M w G444 (by decide) (by decide +kernel) (by decide) rfl rfl (by decide) (by decide) (fun _ => rfl) dX9_init_62 (fun q8 H w => ?_)
  refine r_putF (ws' := [(a0, .inr (9, [.ref q1, .ref q2, .ref q3, .ref q4, .ref q5, .ref q6, .ref q7, .ref q8, .null, .int 0, .int 0, .int 0, .int 0, .int 0, .int 0, .int 0, .int 0, .int 0])), (q1, .inl (T 1, 9, .inr (.inl (fun _ => 0)))), (q2, .inl (T 0, 9, .inl (fun _ => 0))), (q3, .inl (T 0, 9, .inl (fun _ => 0))), (q4, .inl (T 0, 9, .inl (fun _ => 0))), (q5, .inl (T 0, 9, .inl (fun _ => 0))), (q6, .inl (T 0, 9, .inl (fun _ => 0))), (q7, .inl (T 0, 9, .inl (fun _ => 0))), (q8, .inl (T 1, 3, .inr (.inl (fun _ => 0))))]) M w 0 7 clX9 rfl (by decide) G383 rfl rfl hin rfl rfl rfl (Nat.le_of_ble_eq_true rfl) rfl dX9_init_64 (fun H locs w => ?_)
  refine lv_aload_n hx hb dX9_init_67 rfl (lv_at hl 0 rfl) ?_
  refine lv_iconst (v := 3) hx hb dX9_init_68 (by decide) ?_
  refine r_newai (N := 3) (ce := 9) (sl := 69) (ws' := fun q9 => [(a0, .inr (9, [.ref q1, .ref q2, .ref q3, .ref q4, .ref q5, .ref q6, .ref q7, .ref q8, .null, .int 0, .int 0, .int 0, .int 0, .int 0, .int 0, .int 0, .int 0, .int 0])), (q1, .inl (T 1, 9, .inr (.inl (fun _ => 0)))), (q2, .inl (T 0, 9, .inl (fun _ => 0))), (q3, .inl (T 0, 9, .inl (fun _ => 0))), (q4, .inl (T 0, 9, .inl (fun _ => 0))), (q5, .inl (T 0, 9, .inl (fun _ => 0))), (q6, .inl (T 0, 9, .inl (fun _ => 0))), (q7, .inl (T 0, 9, .inl (fun _ => 0))), (q8, .inl (T 1, 3, .inr (.inl (fun _ => 0)))), (q9, .inl (T 0, 3, .inl (fun _ => 0)))]) M w G208 (by decide) (by decide +kernel) (by decide) rfl rfl (by decide) (by decide) (fun _ => rfl) dX9_init_69 (fun q9 H w => ?_)
  refine r_putF (ws' := [(a0, .inr (9, [.ref q1, .ref q2, .ref q3, .ref q4, .ref q5, .ref q6, .ref q7, .ref q8, .ref q9, .int 0, .int 0, .int 0, .int 0, .int 0, .int 0, .int 0, .int 0, .int 0])), (q1, .inl (T 1, 9, .inr (.inl (fun _ => 0)))), (q2, .inl (T 0, 9, .inl (fun _ => 0))), (q3, .inl (T 0, 9, .inl (fun _ => 0))), (q4, .inl (T 0, 9, .inl (fun _ => 0))), (q5, .inl (T 0, 9, .inl (fun _ => 0))), (q6, .inl (T 0, 9, .inl (fun _ => 0))), (q7, .inl (T 0, 9, .inl (fun _ => 0))), (q8, .inl (T 1, 3, .inr (.inl (fun _ => 0)))), (q9, .inl (T 0, 3, .inl (fun _ => 0)))]) M w 0 8 clX9 rfl (by decide) G384 rfl rfl hin rfl rfl rfl (Nat.le_of_ble_eq_true rfl) rfl dX9_init_71 (fun H locs w => ?_)
  refine lv_aload_n hx hb dX9_init_74 rfl (lv_at hl 0 rfl) ?_
  refine lv_iconst (v := 0) hx hb dX9_init_75 (by decide) ?_
  refine r_put (ws' := [(a0, .inr (9, [.ref q1, .ref q2, .ref q3, .ref q4, .ref q5, .ref q6, .ref q7, .ref q8, .ref q9, .int 0, .int 0, .int 0, .int 0, .int 0, .int 0, .int 0, .int 0, .int 0])), (q1, .inl (T 1, 9, .inr (.inl (fun _ => 0)))), (q2, .inl (T 0, 9, .inl (fun _ => 0))), (q3, .inl (T 0, 9, .inl (fun _ => 0))), (q4, .inl (T 0, 9, .inl (fun _ => 0))), (q5, .inl (T 0, 9, .inl (fun _ => 0))), (q6, .inl (T 0, 9, .inl (fun _ => 0))), (q7, .inl (T 0, 9, .inl (fun _ => 0))), (q8, .inl (T 1, 3, .inr (.inl (fun _ => 0)))), (q9, .inl (T 0, 3, .inl (fun _ => 0)))]) M w 0 9 clX9 rfl (by decide) G387 rfl rfl rfl rfl (Nat.le_of_ble_eq_true rfl) rfl dX9_init_76 (fun H locs w => ?_)
  refine lv_aload_n hx hb dX9_init_79 rfl (lv_at hl 0 rfl) ?_
  refine lv_iconst (v := 0) hx hb dX9_init_80 (by decide) ?_
  refine r_put (ws' := [(a0, .inr (9, [.ref q1, .ref q2, .ref q3, .ref q4, .ref q5, .ref q6, .ref q7, .ref q8, .ref q9, .int 0, .int 0, .int 0, .int 0, .int 0, .int 0, .int 0, .int 0, .int 0])), (q1, .inl (T 1, 9, .inr (.inl (fun _ => 0)))), (q2, .inl (T 0, 9, .inl (fun _ => 0))), (q3, .inl (T 0, 9, .inl (fun _ => 0))), (q4, .inl (T 0, 9, .inl (fun _ => 0))), (q5, .inl (T 0, 9, .inl (fun _ => 0))), (q6, .inl (T 0, 9, .inl (fun _ => 0))), (q7, .inl (T 0, 9, .inl (fun _ => 0))), (q8, .inl (T 1, 3, .inr (.inl (fun _ => 0)))), (q9, .inl (T 0, 3, .inl (fun _ => 0)))]) M w 0 10 clX9 rfl (by decide) G393 rfl rfl rfl rfl (Nat.le_of_ble_eq_true rfl) rfl dX9_init_81 (fun H locs w => ?_)
  refine lv_aload_n hx hb dX9_init_84 rfl (lv_at hl 0 rfl) ?_
  refine lv_iconst (v := 0) hx hb dX9_init_85 (by decide) ?_
  refine r_put (ws' := [(a0, .inr (9, [.ref q1, .ref q2, .ref q3, .ref q4, .ref q5, .ref q6, .ref q7, .ref q8, .ref q9, .int 0, .int 0, .int 0, .int 0, .int 0, .int 0, .int 0, .int 0, .int 0])), (q1, .inl (T 1, 9, .inr (.inl (fun _ => 0)))), (q2, .inl (T 0, 9, .inl (fun _ => 0))), (q3, .inl (T 0, 9, .inl (fun _ => 0))), (q4, .inl (T 0, 9, .inl (fun _ => 0))), (q5, .inl (T 0, 9, .inl (fun _ => 0))), (q6, .inl (T 0, 9, .inl (fun _ => 0))), (q7, .inl (T 0, 9, .inl (fun _ => 0))), (q8, .inl (T 1, 3, .inr (.inl (fun _ => 0)))), (q9, .inl (T 0, 3, .inl (fun _ => 0)))]) M w 0 11 clX9 rfl (by decide) G396 rfl rfl rfl rfl (Nat.le_of_ble_eq_true rfl) rfl dX9_init_86 (fun H locs w => ?_)
  refine lv_aload_n hx hb dX9_init_89 rfl (lv_at hl 0 rfl) ?_
  refine lv_iconst (v := 0) hx hb dX9_init_90 (by decide) ?_
  refine r_put (ws' := [(a0, .inr (9, [.ref q1, .ref q2, .ref q3, .ref q4, .ref q5, .ref q6, .ref q7, .ref q8, .ref q9, .int 0, .int 0, .int 0, .int 0, .int 0, .int 0, .int 0, .int 0, .int 0])), (q1, .inl (T 1, 9, .inr (.inl (fun _ => 0)))), (q2, .inl (T 0, 9, .inl (fun _ => 0))), (q3, .inl (T 0, 9, .inl (fun _ => 0))), (q4, .inl (T 0, 9, .inl (fun _ => 0))), (q5, .inl (T 0, 9, .inl (fun _ => 0))), (q6, .inl (T 0, 9, .inl (fun _ => 0))), (q7, .inl (T 0, 9, .inl (fun _ => 0))), (q8, .inl (T 1, 3, .inr (.inl (fun _ => 0)))), (q9, .inl (T 0, 3, .inl (fun _ => 0)))]) M w 0 12 clX9 rfl (by decide) G398 rfl rfl rfl rfl (Nat.le_of_ble_eq_true rfl) rfl dX9_init_91 (fun H locs w => ?_)
  refine lv_aload_n hx hb dX9_init_94 rfl (lv_at hl 0 rfl) ?_
  refine lv_bipush (v := 12) hx hb dX9_init_95 (by decide) ?_
  refine r_put (ws' := [(a0, .inr (9, [.ref q1, .ref q2, .ref q3, .ref q4, .ref q5, .ref q6, .ref q7, .ref q8, .ref q9, .int 0, .int 0, .int 0, .int 0, .int 12, .int 0, .int 0, .int 0, .int 0])), (q1, .inl (T 1, 9, .inr (.inl (fun _ => 0)))), (q2, .inl (T 0, 9, .inl (fun _ => 0))), (q3, .inl (T 0, 9, .inl (fun _ => 0))), (q4, .inl (T 0, 9, .inl (fun _ => 0))), (q5, .inl (T 0, 9, .inl (fun _ => 0))), (q6, .inl (T 0, 9, .inl (fun _ => 0))), (q7, .inl (T 0, 9, .inl (fun _ => 0))), (q8, .inl (T 1, 3, .inr (.inl (fun _ => 0)))), (q9, .inl (T 0, 3, .inl (fun _ => 0)))]) M w 0 13 clX9 rfl (by decide) G400 rfl rfl rfl rfl (Nat.le_of_ble_eq_true rfl) rfl dX9_init_97 (fun H locs w => ?_)
  refine lv_aload_n hx hb dX9_init_100 rfl (lv_at hl 0 rfl) ?_
  refine lv_iconst (v := 1) hx hb dX9_init_101 (by decide) ?_
  refine r_put (ws' := [(a0, .inr (9, [.ref q1, .ref q2, .ref q3, .ref q4, .ref q5, .ref q6, .ref q7, .ref q8, .ref q9, .int 0, .int 0, .int 0, .int 0, .int 12, .int 1, .int 0, .int 0, .int 0])), (q1, .inl (T 1, 9, .inr (.inl (fun _ => 0)))), (q2, .inl (T 0, 9, .inl (fun _ => 0))), (q3, .inl (T 0, 9, .inl (fun _ => 0))), (q4, .inl (T 0, 9, .inl (fun _ => 0))), (q5, .inl (T 0, 9, .inl (fun _ => 0))), (q6, .inl (T 0, 9, .inl (fun _ => 0))), (q7, .inl (T 0, 9, .inl (fun _ => 0))), (q8, .inl (T 1, 3, .inr (.inl (fun _ => 0)))), (q9, .inl (T 0, 3, .inl (fun _ => 0)))]) M w 0 14 clX9 rfl (by decide) G402 rfl rfl rfl rfl (Nat.le_of_ble_eq_true rfl) rfl dX9_init_102 (fun H locs w => ?_)
  refine lv_aload_n hx hb dX9_init_105 rfl (lv_at hl 0 rfl) ?_
  refine lv_iconst (v := 0) hx hb dX9_init_106 (by decide) ?_
  refine r_put (ws' := [(a0, .inr (9, [.ref q1, .ref q2, .ref q3, .ref q4, .ref q5, .ref q6, .ref q7, .ref q8, .ref q9, .int 0, .int 0, .int 0, .int 0, .int 12, .int 1, .int 0, .int 0, .int 0])), (q1, .inl (T 1, 9, .inr (.inl (fun _ => 0)))), (q2, .inl (T 0, 9, .inl (fun _ => 0))), (q3, .inl (T 0, 9, .inl (fun _ => 0))), (q4, .inl (T 0, 9, .inl (fun _ => 0))), (q5, .inl (T 0, 9, .inl (fun _ => 0))), (q6, .inl (T 0, 9, .inl (fun _ => 0))), (q7, .inl (T 0, 9, .inl (fun _ => 0))), (q8, .inl (T 1, 3, .inr (.inl (fun _ => 0)))), (q9, .inl (T 0, 3, .inl (fun _ => 0)))]) M w 0 15 clX9 rfl (by decide) G404 rfl rfl (by decide +kernel) (by decide +kernel) (Nat.le_of_ble_eq_true rfl) rfl dX9_init_107 (fun H locs w => ?_)
  refine lv_aload_n hx hb dX9_init_110 rfl (lv_at hl 0 rfl) ?_
  refine lv_iconst (v := 0) hx hb dX9_init_111 (by decide) ?_
  refine r_put (ws' := [(a0, .inr (9, [.ref q1, .ref q2, .ref q3, .ref q4, .ref q5, .ref q6, .ref q7, .ref q8, .ref q9, .int 0, .int 0, .int 0, .int 0, .int 12, .int 1, .int 0, .int 0, .int 0])), (q1, .inl (T 1, 9, .inr (.inl (fun _ => 0)))), (q2, .inl (T 0, 9, .inl (fun _ => 0))), (q3, .inl (T 0, 9, .inl (fun _ => 0))), (q4, .inl (T 0, 9, .inl (fun _ => 0))), (q5, .inl (T 0, 9, .inl (fun _ => 0))), (q6, .inl (T 0, 9, .inl (fun _ => 0))), (q7, .inl (T 0, 9, .inl (fun _ => 0))), (q8, .inl (T 1, 3, .inr (.inl (fun _ => 0)))), (q9, .inl (T 0, 3, .inl (fun _ => 0)))]) M w 0 16 clX9 rfl (by decide) G405 rfl rfl (by decide +kernel) (by decide +kernel) (Nat.le_of_ble_eq_true rfl) rfl dX9_init_112 (fun H locs w => ?_)
  refine lv_aload_n hx hb dX9_init_115 rfl (lv_at hl 0 rfl) ?_
  refine lv_iconst (v := 0) hx hb dX9_init_116 (by decide) ?_
  refine r_put (ws' := [(a0, .inr (9, [.ref q1, .ref q2, .ref q3, .ref q4, .ref q5, .ref q6, .ref q7, .ref q8, .ref q9, .int 0, .int 0, .int 0, .int 0, .int 12, .int 1, .int 0, .int 0, .int 0])), (q1, .inl (T 1, 9, .inr (.inl (fun _ => 0)))), (q2, .inl (T 0, 9, .inl (fun _ => 0))), (q3, .inl (T 0, 9, .inl (fun _ => 0))), (q4, .inl (T 0, 9, .inl (fun _ => 0))), (q5, .inl (T 0, 9, .inl (fun _ => 0))), (q6, .inl (T 0, 9, .inl (fun _ => 0))), (q7, .inl (T 0, 9, .inl (fun _ => 0))), (q8, .inl (T 1, 3, .inr (.inl (fun _ => 0)))), (q9, .inl (T 0, 3, .inl (fun _ => 0)))]) M w 0 17 clX9 rfl (by decide) G406 rfl rfl (by decide +kernel) (by decide +kernel) (Nat.le_of_ble_eq_true rfl) rfl dX9_init_117 (fun H locs w => ?_)
  exact ret (q1, q2, q3, q4, q5, q6, q7, q8, q9) _ _ _ _ _ [0, 1, 2, 3, 4, 5, 6, 7, 8, 9] dX9_init_120 trivial w (by decide) rfl
set_option maxRecDepth 100000 in
set_option maxHeartbeats 4000000 in
theorem c8_X5_init (l : Launch) (D : va_G) (T : Nat → ClassId) (sz : Nat) (a0 : Nat) : Met l yX5_init (Cond.code yX5_init cX5_init 1 none :: GW) (Rm 1 4 140) (cPre [.ref a0] D T [(a0, .inr (5, [.null, .null, .null, .null, .int 0, .int 0]))] sz) (qV D [(a0, .inr (5, [.null, .null, .null, .null, .int 0, .int 0]))] sz (fun (u : Nat × Nat × Nat × Nat) => let n0 := u.1; let n1 := u.2.1; let n2 := u.2.2.1; let n3 := u.2.2.2; True) (fun u => let n0 := u.1; let n1 := u.2.1; let n2 := u.2.2.1; let n3 := u.2.2.2; [(a0, .inr (5, [.ref n0, .ref n1, .ref n2, .ref n3, .int 0, .int 0])), (n0, .inl (T 5, 40, .inr (.inr (.inr (.inr (fun _ => none)))))), (n1, .inl (T 0, 40, .inl (fun _ => 0))), (n2, .inl (T 0, 40, .inl (fun _ => 0))), (n3, .inl (T 0, 20, .inl (fun _ => 0)))])) 4 140 (va_A [(a0, .inr (5, [.null, .null, .null, .null, .int 0, .int 0]))] sz) := by
  refine e_V (by decide) (Nat.le_of_ble_eq_true rfl) ?_
  intro p e s m args below meth c A Q ls M hin w ret hl
  have hx := M.1.1
  have hb := M.1.2.1
  have hl : lv_has ls 1 [(0, .ref a0)] := hl
  refine lv_aload_n hx hb dX5_init_0 rfl (lv_at hl 0 rfl) ?_
  refine r_obj M G450 G152 G153 hl.1 dX5_init_1 (by decide) (Nat.le_of_ble_eq_true rfl) ?_
  refine lv_aload_n hx hb dX5_init_4 rfl (lv_at hl 0 rfl) ?_
  refine lv_bipush (v := 40) hx hb dX5_init_5 (by decide) ?_
  refine r_newq (N := 40) (t0 := 5) (ce := 1) (sl := 40) (ws' := fun q1 => [(a0, .inr (5, [.null, .null, .null, .null, .int 0, .int 0])), (q1, .inl (T 5, 40, .inr (.inr (.inr (.inr (fun _ => none))))))]) M w G451 N262 rfl (by decide) (by decide +kernel) (by decide) rfl rfl (by decide) (by decide) (fun _ => rfl) dX5_init_7 (fun q1 H w => ?_)
  refine r_putF (ws' := [(a0, .inr (5, [.ref q1, .null, .null, .null, .int 0, .int 0])), (q1, .inl (T 5, 40, .inr (.inr (.inr (.inr (fun _ => none))))))]) M w 0 0 clX5 rfl (by decide) G452 rfl rfl hin rfl rfl rfl (Nat.le_of_ble_eq_true rfl) rfl dX5_init_10 (fun H locs w => ?_)
  refine lv_aload_n hx hb dX5_init_13 rfl (lv_at hl 0 rfl) ?_
  refine lv_bipush (v := 40) hx hb dX5_init_14 (by decide) ?_
  refine r_newai (N := 40) (ce := 2) (sl := 80) (ws' := fun q2 => [(a0, .inr (5, [.ref q1, .null, .null, .null, .int 0, .int 0])), (q1, .inl (T 5, 40, .inr (.inr (.inr (.inr (fun _ => none)))))), (q2, .inl (T 0, 40, .inl (fun _ => 0)))]) M w G208 (by decide) (by decide +kernel) (by decide) rfl rfl (by decide) (by decide) (fun _ => rfl) dX5_init_16 (fun q2 H w => ?_)
  refine r_putF (ws' := [(a0, .inr (5, [.ref q1, .ref q2, .null, .null, .int 0, .int 0])), (q1, .inl (T 5, 40, .inr (.inr (.inr (.inr (fun _ => none)))))), (q2, .inl (T 0, 40, .inl (fun _ => 0)))]) M w 0 1 clX5 rfl (by decide) G453 rfl rfl hin rfl rfl rfl (Nat.le_of_ble_eq_true rfl) rfl dX5_init_18 (fun H locs w => ?_)
  refine lv_aload_n hx hb dX5_init_21 rfl (lv_at hl 0 rfl) ?_
  refine lv_bipush (v := 40) hx hb dX5_init_22 (by decide) ?_
  refine r_newai (N := 40) (ce := 3) (sl := 120) (ws' := fun q3 => [(a0, .inr (5, [.ref q1, .ref q2, .null, .null, .int 0, .int 0])), (q1, .inl (T 5, 40, .inr (.inr (.inr (.inr (fun _ => none)))))), (q2, .inl (T 0, 40, .inl (fun _ => 0))), (q3, .inl (T 0, 40, .inl (fun _ => 0)))]) M w G208 (by decide) (by decide +kernel) (by decide) rfl rfl (by decide) (by decide) (fun _ => rfl) dX5_init_24 (fun q3 H w => ?_)
  refine r_putF (ws' := [(a0, .inr (5, [.ref q1, .ref q2, .ref q3, .null, .int 0, .int 0])), (q1, .inl (T 5, 40, .inr (.inr (.inr (.inr (fun _ => none)))))), (q2, .inl (T 0, 40, .inl (fun _ => 0))), (q3, .inl (T 0, 40, .inl (fun _ => 0)))]) M w 0 2 clX5 rfl (by decide) G454 rfl rfl hin rfl rfl rfl (Nat.le_of_ble_eq_true rfl) rfl dX5_init_26 (fun H locs w => ?_)
  refine lv_aload_n hx hb dX5_init_29 rfl (lv_at hl 0 rfl) ?_
  refine lv_bipush (v := 20) hx hb dX5_init_30 (by decide) ?_
  refine r_newai (N := 20) (ce := 4) (sl := 140) (ws' := fun q4 => [(a0, .inr (5, [.ref q1, .ref q2, .ref q3, .null, .int 0, .int 0])), (q1, .inl (T 5, 40, .inr (.inr (.inr (.inr (fun _ => none)))))), (q2, .inl (T 0, 40, .inl (fun _ => 0))), (q3, .inl (T 0, 40, .inl (fun _ => 0))), (q4, .inl (T 0, 20, .inl (fun _ => 0)))]) M w G208 (by decide) (by decide +kernel) (by decide) rfl rfl (by decide) (by decide) (fun _ => rfl) dX5_init_32 (fun q4 H w => ?_)
  refine r_putF (ws' := [(a0, .inr (5, [.ref q1, .ref q2, .ref q3, .ref q4, .int 0, .int 0])), (q1, .inl (T 5, 40, .inr (.inr (.inr (.inr (fun _ => none)))))), (q2, .inl (T 0, 40, .inl (fun _ => 0))), (q3, .inl (T 0, 40, .inl (fun _ => 0))), (q4, .inl (T 0, 20, .inl (fun _ => 0)))]) M w 0 3 clX5 rfl (by decide) G455 rfl rfl hin rfl rfl rfl (Nat.le_of_ble_eq_true rfl) rfl dX5_init_34 (fun H locs w => ?_)
  refine lv_aload_n hx hb dX5_init_37 rfl (lv_at hl 0 rfl) ?_
  refine lv_iconst (v := 0) hx hb dX5_init_38 (by decide) ?_
  refine r_put (ws' := [(a0, .inr (5, [.ref q1, .ref q2, .ref q3, .ref q4, .int 0, .int 0])), (q1, .inl (T 5, 40, .inr (.inr (.inr (.inr (fun _ => none)))))), (q2, .inl (T 0, 40, .inl (fun _ => 0))), (q3, .inl (T 0, 40, .inl (fun _ => 0))), (q4, .inl (T 0, 20, .inl (fun _ => 0)))]) M w 0 4 clX5 rfl (by decide) G456 rfl rfl rfl rfl (Nat.le_of_ble_eq_true rfl) rfl dX5_init_39 (fun H locs w => ?_)
  refine lv_aload_n hx hb dX5_init_42 rfl (lv_at hl 0 rfl) ?_
  refine lv_iconst (v := 0) hx hb dX5_init_43 (by decide) ?_
  refine r_put (ws' := [(a0, .inr (5, [.ref q1, .ref q2, .ref q3, .ref q4, .int 0, .int 0])), (q1, .inl (T 5, 40, .inr (.inr (.inr (.inr (fun _ => none)))))), (q2, .inl (T 0, 40, .inl (fun _ => 0))), (q3, .inl (T 0, 40, .inl (fun _ => 0))), (q4, .inl (T 0, 20, .inl (fun _ => 0)))]) M w 0 5 clX5 rfl (by decide) G457 rfl rfl rfl rfl (Nat.le_of_ble_eq_true rfl) rfl dX5_init_44 (fun H locs w => ?_)
  exact ret (q1, q2, q3, q4) _ _ _ _ _ [0, 1, 2, 3, 4] dX5_init_47 trivial w (by decide) rfl
set_option maxRecDepth 100000 in
set_option maxHeartbeats 4000000 in
theorem c9_X1_init (l : Launch) (D : va_G) (T : Nat → ClassId) (sz : Nat) (a0 : Nat) : Met l yX1_init (Cond.code yX1_init cX1_init 1 none :: GW) (Rm 2 20 271) (cPre [.ref a0] D T [(a0, .inr (1, [.null, .null, .null, .int 0]))] sz) (qV D [(a0, .inr (1, [.null, .null, .null, .int 0]))] sz (fun (u : Nat × Nat × Nat × Nat × Nat × Nat × Nat × Nat × Nat × Nat × Nat × Nat × Nat × Nat × Nat × Nat × Nat × Nat × Nat × Nat) => let n0 := u.1; let n1 := u.2.1; let n2 := u.2.2.1; let n3 := u.2.2.2.1; let n4 := u.2.2.2.2.1; let n5 := u.2.2.2.2.2.1; let n6 := u.2.2.2.2.2.2.1; let n7 := u.2.2.2.2.2.2.2.1; let n8 := u.2.2.2.2.2.2.2.2.1; let n9 := u.2.2.2.2.2.2.2.2.2.1; let n10 := u.2.2.2.2.2.2.2.2.2.2.1; let n11 := u.2.2.2.2.2.2.2.2.2.2.2.1; let n12 := u.2.2.2.2.2.2.2.2.2.2.2.2.1; let n13 := u.2.2.2.2.2.2.2.2.2.2.2.2.2.1; let n14 := u.2.2.2.2.2.2.2.2.2.2.2.2.2.2.1; let n15 := u.2.2.2.2.2.2.2.2.2.2.2.2.2.2.2.1; let n16 := u.2.2.2.2.2.2.2.2.2.2.2.2.2.2.2.2.1; let n17 := u.2.2.2.2.2.2.2.2.2.2.2.2.2.2.2.2.2.1; let n18 := u.2.2.2.2.2.2.2.2.2.2.2.2.2.2.2.2.2.2.1; let n19 := u.2.2.2.2.2.2.2.2.2.2.2.2.2.2.2.2.2.2.2; True) (fun u => let n0 := u.1; let n1 := u.2.1; let n2 := u.2.2.1; let n3 := u.2.2.2.1; let n4 := u.2.2.2.2.1; let n5 := u.2.2.2.2.2.1; let n6 := u.2.2.2.2.2.2.1; let n7 := u.2.2.2.2.2.2.2.1; let n8 := u.2.2.2.2.2.2.2.2.1; let n9 := u.2.2.2.2.2.2.2.2.2.1; let n10 := u.2.2.2.2.2.2.2.2.2.2.1; let n11 := u.2.2.2.2.2.2.2.2.2.2.2.1; let n12 := u.2.2.2.2.2.2.2.2.2.2.2.2.1; let n13 := u.2.2.2.2.2.2.2.2.2.2.2.2.2.1; let n14 := u.2.2.2.2.2.2.2.2.2.2.2.2.2.2.1; let n15 := u.2.2.2.2.2.2.2.2.2.2.2.2.2.2.2.1; let n16 := u.2.2.2.2.2.2.2.2.2.2.2.2.2.2.2.2.1; let n17 := u.2.2.2.2.2.2.2.2.2.2.2.2.2.2.2.2.2.1; let n18 := u.2.2.2.2.2.2.2.2.2.2.2.2.2.2.2.2.2.2.1; let n19 := u.2.2.2.2.2.2.2.2.2.2.2.2.2.2.2.2.2.2.2; [(a0, .inr (1, [.ref n0, .ref n10, .ref n15, .int 0])), (n0, .inr (9, [.ref n1, .ref n2, .ref n3, .ref n4, .ref n5, .ref n6, .ref n7, .ref n8, .ref n9, .int 0, .int 0, .int 0, .int 0, .int 12, .int 1, .int 0, .int 0, .int 0])), (n1, .inl (T 1, 9, .inr (.inl (fun _ => 0)))), (n2, .inl (T 0, 9, .inl (fun _ => 0))), (n3, .inl (T 0, 9, .inl (fun _ => 0))), (n4, .inl (T 0, 9, .inl (fun _ => 0))), (n5, .inl (T 0, 9, .inl (fun _ => 0))), (n6, .inl (T 0, 9, .inl (fun _ => 0))), (n7, .inl (T 0, 9, .inl (fun _ => 0))), (n8, .inl (T 1, 3, .inr (.inl (fun _ => 0)))), (n9, .inl (T 0, 3, .inl (fun _ => 0))), (n10, .inr (7, [.ref n11, .ref n12, .ref n13, .ref n14, .int 0, .int 0, .int 0, .int 0])), (n11, .inl (T 0, 9, .inl (fun _ => 0))), (n12, .inl (T 0, 9, .inl (fun _ => 0))), (n13, .inl (T 0, 9, .inl (fun _ => 0))), (n14, .inl (T 0, 3, .inl (fun _ => 0))), (n15, .inr (5, [.ref n16, .ref n17, .ref n18, .ref n19, .int 0, .int 0])), (n16, .inl (T 5, 40, .inr (.inr (.inr (.inr (fun _ => none)))))), (n17, .inl (T 0, 40, .inl (fun _ => 0))), (n18, .inl (T 0, 40, .inl (fun _ => 0))), (n19, .inl (T 0, 20, .inl (fun _ => 0)))])) 20 271 (va_A [(a0, .inr (1, [.null, .null, .null, .int 0]))] sz) := by
  refine e_V (by decide) (Nat.le_of_ble_eq_true rfl) ?_
  intro p e s m args below meth c A Q ls M hin w ret hl
  have hx := M.1.1
  have hb := M.1.2.1
  have hl : lv_has ls 1 [(0, .ref a0)] := hl
  refine lv_aload_n hx hb dX1_init_0 rfl (lv_at hl 0 rfl) ?_
  refine r_obj M G476 G152 G153 hl.1 dX1_init_1 (by decide) (Nat.le_of_ble_eq_true rfl) ?_
  refine lv_aload_n hx hb dX1_init_4 rfl (lv_at hl 0 rfl) ?_
  refine r_new (fs := [.null, .null, .null, .null, .null, .null, .null, .null, .null, .int 0, .int 0, .int 0, .int 0, .int 0, .int 0, .int 0, .int 0, .int 0]) (ce := 1) (sl := 18) (ws' := fun q1 => [(a0, .inr (1, [.null, .null, .null, .int 0])), (q1, .inr (9, [.null, .null, .null, .null, .null, .null, .null, .null, .null, .int 0, .int 0, .int 0, .int 0, .int 0, .int 0, .int 0, .int 0, .int 0]))]) M w clX9 G477 G361 G128 (by decide +kernel) rfl rfl (by decide) (by decide) (fun _ => rfl) dX1_init_5 (fun q1 H w => ?_)
  refine lv_dup hx hb dX1_init_8 rfl ?_
  refine k_V (ce := 10) (sl := 87) (rest := [.ref q1, .ref a0]) (wr := [(a0, .inr (1, [.null, .null, .null, .int 0]))]) (r_IN (f := 1) [1] M w V_HookedCity_Image_9 rfl G363 (c7_X9_init l D T _ q1) rfl (by decide) rfl hl.1 rfl (Nat.le_of_ble_eq_true rfl) dX1_init_9 (by decide) (by decide) (by decide) (by decide)) w [1] [0] rfl rfl (by decide) (by decide) rfl rfl (fun u H locs hp w => ?_)
  obtain ⟨q2, q3, q4, q5, q6, q7, q8, q9, q10⟩ := u
  have w : WD D A s.heap [(a0, .inr (1, [.null, .null, .null, .int 0])), (q1, .inr (9, [.ref q2, .ref q3, .ref q4, .ref q5, .ref q6, .ref q7, .ref q8, .ref q9, .ref q10, .int 0, .int 0, .int 0, .int 0, .int 12, .int 1, .int 0, .int 0, .int 0])), (q2, .inl (T 1, 9, .inr (.inl (fun _ => 0)))), (q3, .inl (T 0, 9, .inl (fun _ => 0))), (q4, .inl (T 0, 9, .inl (fun _ => 0))), (q5, .inl (T 0, 9, .inl (fun _ => 0))), (q6, .inl (T 0, 9, .inl (fun _ => 0))), (q7, .inl (T 0, 9, .inl (fun _ => 0))), (q8, .inl (T 0, 9, .inl (fun _ => 0))), (q9, .inl (T 1, 3, .inr (.inl (fun _ => 0)))), (q10, .inl (T 0, 3, .inl (fun _ => 0)))] H locs := w
  refine r_putF (ws' := [(a0, .inr (1, [.ref q1, .null, .null, .int 0])), (q1, .inr (9, [.ref q2, .ref q3, .ref q4, .ref q5, .ref q6, .ref q7, .ref q8, .ref q9, .ref q10, .int 0, .int 0, .int 0, .int 0, .int 12, .int 1, .int 0, .int 0, .int 0])), (q2, .inl (T 1, 9, .inr (.inl (fun _ => 0)))), (q3, .inl (T 0, 9, .inl (fun _ => 0))), (q4, .inl (T 0, 9, .inl (fun _ => 0))), (q5, .inl (T 0, 9, .inl (fun _ => 0))), (q6, .inl (T 0, 9, .inl (fun _ => 0))), (q7, .inl (T 0, 9, .inl (fun _ => 0))), (q8, .inl (T 0, 9, .inl (fun _ => 0))), (q9, .inl (T 1, 3, .inr (.inl (fun _ => 0)))), (q10, .inl (T 0, 3, .inl (fun _ => 0)))]) M w 0 0 clX1 rfl (by decide) G483 rfl rfl hin rfl rfl rfl (Nat.le_of_ble_eq_true rfl) rfl dX1_init_12 (fun H locs w => ?_)
  refine lv_aload_n hx hb dX1_init_15 rfl (lv_at hl 0 rfl) ?_
  refine r_new (fs := [.null, .null, .null, .null, .int 0, .int 0, .int 0, .int 0]) (ce := 11) (sl := 95) (ws' := fun q11 => [(a0, .inr (1, [.ref q1, .null, .null, .int 0])), (q1, .inr (9, [.ref q2, .ref q3, .ref q4, .ref q5, .ref q6, .ref q7, .ref q8, .ref q9, .ref q10, .int 0, .int 0, .int 0, .int 0, .int 12, .int 1, .int 0, .int 0, .int 0])), (q2, .inl (T 1, 9, .inr (.inl (fun _ => 0)))), (q3, .inl (T 0, 9, .inl (fun _ => 0))), (q4, .inl (T 0, 9, .inl (fun _ => 0))), (q5, .inl (T 0, 9, .inl (fun _ => 0))), (q6, .inl (T 0, 9, .inl (fun _ => 0))), (q7, .inl (T 0, 9, .inl (fun _ => 0))), (q8, .inl (T 0, 9, .inl (fun _ => 0))), (q9, .inl (T 1, 3, .inr (.inl (fun _ => 0)))), (q10, .inl (T 0, 3, .inl (fun _ => 0))), (q11, .inr (7, [.null, .null, .null, .null, .int 0, .int 0, .int 0, .int 0]))]) M w clX7 G479 G210 G121 (by decide +kernel) rfl rfl (by decide) (by decide) (fun _ => rfl) dX1_init_16 (fun q11 H w => ?_)
  refine lv_dup hx hb dX1_init_19 rfl ?_
  refine k_V (ce := 15) (sl := 125) (rest := [.ref q11, .ref a0]) (wr := [(a0, .inr (1, [.ref q1, .null, .null, .int 0])), (q1, .inr (9, [.ref q2, .ref q3, .ref q4, .ref q5, .ref q6, .ref q7, .ref q8, .ref q9, .ref q10, .int 0, .int 0, .int 0, .int 0, .int 12, .int 1, .int 0, .int 0, .int 0])), (q2, .inl (T 1, 9, .inr (.inl (fun _ => 0)))), (q3, .inl (T 0, 9, .inl (fun _ => 0))), (q4, .inl (T 0, 9, .inl (fun _ => 0))), (q5, .inl (T 0, 9, .inl (fun _ => 0))), (q6, .inl (T 0, 9, .inl (fun _ => 0))), (q7, .inl (T 0, 9, .inl (fun _ => 0))), (q8, .inl (T 0, 9, .inl (fun _ => 0))), (q9, .inl (T 1, 3, .inr (.inl (fun _ => 0)))), (q10, .inl (T 0, 3, .inl (fun _ => 0)))]) (r_IN (f := 1) [11] M w V_HookedCity_Image_18 rfl G212 (c2_X7_init l D T _ q11) rfl (by decide) rfl hl.1 rfl (Nat.le_of_ble_eq_true rfl) dX1_init_20 (by decide) (by decide) (by decide) (by decide)) w [11] [0, 1, 2, 3, 4, 5, 6, 7, 8, 9, 10] rfl rfl (by decide) (by decide) rfl rfl (fun u H locs hp w => ?_)
  obtain ⟨q12, q13, q14, q15⟩ := u
  have w : WD D A s.heap [(a0, .inr (1, [.ref q1, .null, .null, .int 0])), (q1, .inr (9, [.ref q2, .ref q3, .ref q4, .ref q5, .ref q6, .ref q7, .ref q8, .ref q9, .ref q10, .int 0, .int 0, .int 0, .int 0, .int 12, .int 1, .int 0, .int 0, .int 0])), (q2, .inl (T 1, 9, .inr (.inl (fun _ => 0)))), (q3, .inl (T 0, 9, .inl (fun _ => 0))), (q4, .inl (T 0, 9, .inl (fun _ => 0))), (q5, .inl (T 0, 9, .inl (fun _ => 0))), (q6, .inl (T 0, 9, .inl (fun _ => 0))), (q7, .inl (T 0, 9, .inl (fun _ => 0))), (q8, .inl (T 0, 9, .inl (fun _ => 0))), (q9, .inl (T 1, 3, .inr (.inl (fun _ => 0)))), (q10, .inl (T 0, 3, .inl (fun _ => 0))), (q11, .inr (7, [.ref q12, .ref q13, .ref q14, .ref q15, .int 0, .int 0, .int 0, .int 0])), (q12, .inl (T 0, 9, .inl (fun _ => 0))), (q13, .inl (T 0, 9, .inl (fun _ => 0))), (q14, .inl (T 0, 9, .inl (fun _ => 0))), (q15, .inl (T 0, 3, .inl (fun _ => 0)))] H locs := w
  refine r_putF (ws' := [(a0, .inr (1, [.ref q1, .ref q11, .null, .int 0])), (q1, .inr (9, [.ref q2, .ref q3, .ref q4, .ref q5, .ref q6, .ref q7, .ref q8, .ref q9, .ref q10, .int 0, .int 0, .int 0, .int 0, .int 12, .int 1, .int 0, .int 0, .int 0])), (q2, .inl (T 1, 9, .inr (.inl (fun _ => 0)))), (q3, .inl (T 0, 9, .inl (fun _ => 0))), (q4, .inl (T 0, 9, .inl (fun _ => 0))), (q5, .inl (T 0, 9, .inl (fun _ => 0))), (q6, .inl (T 0, 9, .inl (fun _ => 0))), (q7, .inl (T 0, 9, .inl (fun _ => 0))), (q8, .inl (T 0, 9, .inl (fun _ => 0))), (q9, .inl (T 1, 3, .inr (.inl (fun _ => 0)))), (q10, .inl (T 0, 3, .inl (fun _ => 0))), (q11, .inr (7, [.ref q12, .ref q13, .ref q14, .ref q15, .int 0, .int 0, .int 0, .int 0])), (q12, .inl (T 0, 9, .inl (fun _ => 0))), (q13, .inl (T 0, 9, .inl (fun _ => 0))), (q14, .inl (T 0, 9, .inl (fun _ => 0))), (q15, .inl (T 0, 3, .inl (fun _ => 0)))]) M w 0 1 clX1 rfl (by decide) G484 rfl rfl hin rfl rfl rfl (Nat.le_of_ble_eq_true rfl) rfl dX1_init_23 (fun H locs w => ?_)
  refine lv_aload_n hx hb dX1_init_26 rfl (lv_at hl 0 rfl) ?_
  refine r_new (fs := [.null, .null, .null, .null, .int 0, .int 0]) (ce := 16) (sl := 131) (ws' := fun q16 => [(a0, .inr (1, [.ref q1, .ref q11, .null, .int 0])), (q1, .inr (9, [.ref q2, .ref q3, .ref q4, .ref q5, .ref q6, .ref q7, .ref q8, .ref q9, .ref q10, .int 0, .int 0, .int 0, .int 0, .int 12, .int 1, .int 0, .int 0, .int 0])), (q2, .inl (T 1, 9, .inr (.inl (fun _ => 0)))), (q3, .inl (T 0, 9, .inl (fun _ => 0))), (q4, .inl (T 0, 9, .inl (fun _ => 0))), (q5, .inl (T 0, 9, .inl (fun _ => 0))), (q6, .inl (T 0, 9, .inl (fun _ => 0))), (q7, .inl (T 0, 9, .inl (fun _ => 0))), (q8, .inl (T 0, 9, .inl (fun _ => 0))), (q9, .inl (T 1, 3, .inr (.inl (fun _ => 0)))), (q10, .inl (T 0, 3, .inl (fun _ => 0))), (q11, .inr (7, [.ref q12, .ref q13, .ref q14, .ref q15, .int 0, .int 0, .int 0, .int 0])), (q12, .inl (T 0, 9, .inl (fun _ => 0))), (q13, .inl (T 0, 9, .inl (fun _ => 0))), (q14, .inl (T 0, 9, .inl (fun _ => 0))), (q15, .inl (T 0, 3, .inl (fun _ => 0))), (q16, .inr (5, [.null, .null, .null, .null, .int 0, .int 0]))]) M w clX5 G481 G446 G129 (by decide +kernel) rfl rfl (by decide) (by decide) (fun _ => rfl) dX1_init_27 (fun q16 H w => ?_)
  refine lv_dup hx hb dX1_init_30 rfl ?_
  refine k_V (ce := 20) (sl := 271) (rest := [.ref q16, .ref a0]) (wr := [(a0, .inr (1, [.ref q1, .ref q11, .null, .int 0])), (q1, .inr (9, [.ref q2, .ref q3, .ref q4, .ref q5, .ref q6, .ref q7, .ref q8, .ref q9, .ref q10, .int 0, .int 0, .int 0, .int 0, .int 12, .int 1, .int 0, .int 0, .int 0])), (q2, .inl (T 1, 9, .inr (.inl (fun _ => 0)))), (q3, .inl (T 0, 9, .inl (fun _ => 0))), (q4, .inl (T 0, 9, .inl (fun _ => 0))), (q5, .inl (T 0, 9, .inl (fun _ => 0))), (q6, .inl (T 0, 9, .inl (fun _ => 0))), (q7, .inl (T 0, 9, .inl (fun _ => 0))), (q8, .inl (T 0, 9, .inl (fun _ => 0))), (q9, .inl (T 1, 3, .inr (.inl (fun _ => 0)))), (q10, .inl (T 0, 3, .inl (fun _ => 0))), (q11, .inr (7, [.ref q12, .ref q13, .ref q14, .ref q15, .int 0, .int 0, .int 0, .int 0])), (q12, .inl (T 0, 9, .inl (fun _ => 0))), (q13, .inl (T 0, 9, .inl (fun _ => 0))), (q14, .inl (T 0, 9, .inl (fun _ => 0))), (q15, .inl (T 0, 3, .inl (fun _ => 0)))]) (r_IN (f := 1) [16] M w V_HookedCity_Image_25 rfl G448 (c8_X5_init l D T _ q16) rfl (by decide) rfl hl.1 rfl (Nat.le_of_ble_eq_true rfl) dX1_init_31 (by decide) (by decide) (by decide) (by decide)) w [16] [0, 1, 2, 3, 4, 5, 6, 7, 8, 9, 10, 11, 12, 13, 14, 15] rfl rfl (by decide) (by decide) rfl rfl (fun u H locs hp w => ?_)
  obtain ⟨q17, q18, q19, q20⟩ := u
  have w : WD D A s.heap [(a0, .inr (1, [.ref q1, .ref q11, .null, .int 0])), (q1, .inr (9, [.ref q2, .ref q3, .ref q4, .ref q5, .ref q6, .ref q7, .ref q8, .ref q9, .ref q10, .int 0, .int 0, .int 0, .int 0, .int 12, .int 1, .int 0, .int 0, .int 0])), (q2, .inl (T 1, 9, .inr (.inl (fun _ => 0)))), (q3, .inl (T 0, 9, .inl (fun _ => 0))), (q4, .inl (T 0, 9, .inl (fun _ => 0))), (q5, .inl (T 0, 9, .inl (fun _ => 0))), (q6, .inl (T 0, 9, .inl (fun _ => 0))), (q7, .inl (T 0, 9, .inl (fun _ => 0))), (q8, .inl (T 0, 9, .inl (fun _ => 0))), (q9, .inl (T 1, 3, .inr (.inl (fun _ => 0)))), (q10, .inl (T 0, 3, .inl (fun _ => 0))), (q11, .inr (7, [.ref q12, .ref q13, .ref q14, .ref q15, .int 0, .int 0, .int 0, .int 0])), (q12, .inl (T 0, 9, .inl (fun _ => 0))), (q13, .inl (T 0, 9, .inl (fun _ => 0))), (q14, .inl (T 0, 9, .inl (fun _ => 0))), (q15, .inl (T 0, 3, .inl (fun _ => 0))), (q16, .inr (5, [.ref q17, .ref q18, .ref q19, .ref q20, .int 0, .int 0])), (q17, .inl (T 5, 40, .inr (.inr (.inr (.inr (fun _ => none)))))), (q18, .inl (T 0, 40, .inl (fun _ => 0))), (q19, .inl (T 0, 40, .inl (fun _ => 0))), (q20, .inl (T 0, 20, .inl (fun _ => 0)))] H locs := w
  refine r_putF (ws' := [(a0, .inr (1, [.ref q1, .ref q11, .ref q16, .int 0])), (q1, .inr (9, [.ref q2, .ref q3, .ref q4, .ref q5, .ref q6, .ref q7, .ref q8, .ref q9, .ref q10, .int 0, .int 0, .int 0, .int 0, .int 12, .int 1, .int 0, .int 0, .int 0])), (q2, .inl (T 1, 9, .inr (.inl (fun _ => 0)))), (q3, .inl (T 0, 9, .inl (fun _ => 0))), (q4, .inl (T 0, 9, .inl (fun _ => 0))), (q5, .inl (T 0, 9, .inl (fun _ => 0))), (q6, .inl (T 0, 9, .inl (fun _ => 0))), (q7, .inl (T 0, 9, .inl (fun _ => 0))), (q8, .inl (T 0, 9, .inl (fun _ => 0))), (q9, .inl (T 1, 3, .inr (.inl (fun _ => 0)))), (q10, .inl (T 0, 3, .inl (fun _ => 0))), (q11, .inr (7, [.ref q12, .ref q13, .ref q14, .ref q15, .int 0, .int 0, .int 0, .int 0])), (q12, .inl (T 0, 9, .inl (fun _ => 0))), (q13, .inl (T 0, 9, .inl (fun _ => 0))), (q14, .inl (T 0, 9, .inl (fun _ => 0))), (q15, .inl (T 0, 3, .inl (fun _ => 0))), (q16, .inr (5, [.ref q17, .ref q18, .ref q19, .ref q20, .int 0, .int 0])), (q17, .inl (T 5, 40, .inr (.inr (.inr (.inr (fun _ => none)))))), (q18, .inl (T 0, 40, .inl (fun _ => 0))), (q19, .inl (T 0, 40, .inl (fun _ => 0))), (q20, .inl (T 0, 20, .inl (fun _ => 0)))]) M w 0 2 clX1 rfl (by decide) G485 rfl rfl hin rfl rfl rfl (Nat.le_of_ble_eq_true rfl) rfl dX1_init_34 (fun H locs w => ?_)
  refine lv_aload_n hx hb dX1_init_37 rfl (lv_at hl 0 rfl) ?_
  refine lv_iconst (v := 0) hx hb dX1_init_38 (by decide) ?_
  refine r_put (ws' := [(a0, .inr (1, [.ref q1, .ref q11, .ref q16, .int 0])), (q1, .inr (9, [.ref q2, .ref q3, .ref q4, .ref q5, .ref q6, .ref q7, .ref q8, .ref q9, .ref q10, .int 0, .int 0, .int 0, .int 0, .int 12, .int 1, .int 0, .int 0, .int 0])), (q2, .inl (T 1, 9, .inr (.inl (fun _ => 0)))), (q3, .inl (T 0, 9, .inl (fun _ => 0))), (q4, .inl (T 0, 9, .inl (fun _ => 0))), (q5, .inl (T 0, 9, .inl (fun _ => 0))), (q6, .inl (T 0, 9, .inl (fun _ => 0))), (q7, .inl (T 0, 9, .inl (fun _ => 0))), (q8, .inl (T 0, 9, .inl (fun _ => 0))), (q9, .inl (T 1, 3, .inr (.inl (fun _ => 0)))), (q10, .inl (T 0, 3, .inl (fun _ => 0))), (q11, .inr (7, [.ref q12, .ref q13, .ref q14, .ref q15, .int 0, .int 0, .int 0, .int 0])), (q12, .inl (T 0, 9, .inl (fun _ => 0))), (q13, .inl (T 0, 9, .inl (fun _ => 0))), (q14, .inl (T 0, 9, .inl (fun _ => 0))), (q15, .inl (T 0, 3, .inl (fun _ => 0))), (q16, .inr (5, [.ref q17, .ref q18, .ref q19, .ref q20, .int 0, .int 0])), (q17, .inl (T 5, 40, .inr (.inr (.inr (.inr (fun _ => none)))))), (q18, .inl (T 0, 40, .inl (fun _ => 0))), (q19, .inl (T 0, 40, .inl (fun _ => 0))), (q20, .inl (T 0, 20, .inl (fun _ => 0)))]) M w 0 3 clX1 rfl (by decide) G486 rfl rfl (by decide +kernel) (by decide +kernel) (Nat.le_of_ble_eq_true rfl) rfl dX1_init_39 (fun H locs w => ?_)
  exact ret (q1, q2, q3, q4, q5, q6, q7, q8, q9, q10, q11, q12, q13, q14, q15, q16, q17, q18, q19, q20) _ _ _ _ _ [0, 1, 2, 3, 4, 5, 6, 7, 8, 9, 10, 11, 12, 13, 14, 15, 16, 17, 18, 19, 20] dX1_init_42 trivial w (by decide) rfl
