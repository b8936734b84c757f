theorem dJ7_fill_53178_0 : decode cJ7_fill_53178 0 = .ok (.iconst 0, 1) := by decide +kernel
theorem dJ7_fill_53178_1 : decode cJ7_fill_53178 1 = .ok (.istore_n 2, 1) := by decide +kernel
theorem dJ7_fill_53178_2 : decode cJ7_fill_53178 2 = .ok (.aload_n 0, 1) := by decide +kernel
theorem dJ7_fill_53178_3 : decode cJ7_fill_53178 3 = .ok (.arraylength, 1) := by decide +kernel
theorem dJ7_fill_53178_4 : decode cJ7_fill_53178 4 = .ok (.istore_n 3, 1) := by decide +kernel
theorem dJ7_fill_53178_5 : decode cJ7_fill_53178 5 = .ok (.iload_n 2, 1) := by decide +kernel
theorem dJ7_fill_53178_6 : decode cJ7_fill_53178 6 = .ok (.iload_n 3, 1) := by decide +kernel
theorem dJ7_fill_53178_7 : decode cJ7_fill_53178 7 = .ok (.if_icmp .ge 13, 3) := by decide +kernel
theorem dJ7_fill_53178_20 : decode cJ7_fill_53178 20 = .ok (.return_, 1) := by decide +kernel
theorem dJ7_fill_53178_10 : decode cJ7_fill_53178 10 = .ok (.aload_n 0, 1) := by decide +kernel
theorem dJ7_fill_53178_11 : decode cJ7_fill_53178 11 = .ok (.iload_n 2, 1) := by decide +kernel
theorem dJ7_fill_53178_12 : decode cJ7_fill_53178 12 = .ok (.iload_n 1, 1) := by decide +kernel
theorem dJ7_fill_53178_13 : decode cJ7_fill_53178 13 = .ok (.iastore, 1) := by decide +kernel
theorem dJ7_fill_53178_14 : decode cJ7_fill_53178 14 = .ok (.iinc 2 1, 3) := by decide +kernel
theorem dJ7_fill_53178_17 : decode cJ7_fill_53178 17 = .ok (.goto (-12), 3) := by decide +kernel
theorem dX7_begin_0 : decode cX7_begin 0 = .ok (.aload_n 1, 1) := by decide +kernel
theorem dX7_begin_1 : decode cX7_begin 1 = .ok (.getfield 37, 3) := by decide +kernel
theorem N373 : Cond.fieldLinkNest "HookedCity$State" 37 "HookedCity$Town" "strengths" "[I" "HookedCity" ∈ lw_tbl := List.mem_of_getElem? (i := 373) (by decide +kernel)
theorem dX7_begin_4 : decode cX7_begin 4 = .ok (.iconst 0, 1) := by decide +kernel
theorem dX7_begin_5 : decode cX7_begin 5 = .ok (.aload_n 0, 1) := by decide +kernel
theorem dX7_begin_6 : decode cX7_begin 6 = .ok (.getfield 9, 3) := by decide +kernel
theorem G215 : Cond.fieldLink "HookedCity$State" 9 "HookedCity$State" "left" "[I" ∈ GW := gw_i 215 (by decide +kernel) rfl
theorem dX7_begin_9 : decode cX7_begin 9 = .ok (.iconst 0, 1) := by decide +kernel
theorem dX7_begin_10 : decode cX7_begin 10 = .ok (.bipush 9, 2) := by decide +kernel
theorem dX7_begin_12 : decode cX7_begin 12 = .ok (.invokestatic 42, 3) := by decide +kernel
theorem G794 : Cond.methodLink "HookedCity$State" 42 ⟨"java/lang/System", "arraycopy", "(Ljava/lang/Object;ILjava/lang/Object;II)V"⟩ ∈ GW := gw_i 794 (by decide +kernel) rfl
theorem G796 : Cond.native ⟨"java/lang/System", "arraycopy", "(Ljava/lang/Object;ILjava/lang/Object;II)V"⟩ ∈ GW := gw_i 796 (by decide +kernel) rfl
theorem G795 : Cond.static ⟨"java/lang/System", "arraycopy", "(Ljava/lang/Object;ILjava/lang/Object;II)V"⟩ ∈ GW := gw_i 795 (by decide +kernel) rfl
theorem G140 : Cond.initialized "java/lang/System" ∈ GW := gw_i 140 (by decide +kernel) rfl
theorem dX7_begin_15 : decode cX7_begin 15 = .ok (.aload_n 1, 1) := by decide +kernel
theorem dX7_begin_16 : decode cX7_begin 16 = .ok (.getfield 48, 3) := by decide +kernel
theorem N380 : Cond.fieldLinkNest "HookedCity$State" 48 "HookedCity$Town" "into" "[I" "HookedCity" ∈ lw_tbl := List.mem_of_getElem? (i := 380) (by decide +kernel)
theorem dX7_begin_19 : decode cX7_begin 19 = .ok (.iconst 0, 1) := by decide +kernel
theorem dX7_begin_20 : decode cX7_begin 20 = .ok (.aload_n 0, 1) := by decide +kernel
theorem dX7_begin_21 : decode cX7_begin 21 = .ok (.getfield 15, 3) := by decide +kernel
theorem G220 : Cond.fieldLink "HookedCity$State" 15 "HookedCity$State" "into" "[I" ∈ GW := gw_i 220 (by decide +kernel) rfl
theorem dX7_begin_24 : decode cX7_begin 24 = .ok (.iconst 0, 1) := by decide +kernel
theorem dX7_begin_25 : decode cX7_begin 25 = .ok (.bipush 9, 2) := by decide +kernel
theorem dX7_begin_27 : decode cX7_begin 27 = .ok (.invokestatic 42, 3) := by decide +kernel
theorem dX7_begin_30 : decode cX7_begin 30 = .ok (.aload_n 1, 1) := by decide +kernel
theorem dX7_begin_31 : decode cX7_begin 31 = .ok (.getfield 49, 3) := by decide +kernel
theorem N382 : Cond.fieldLinkNest "HookedCity$State" 49 "HookedCity$Town" "from" "[I" "HookedCity" ∈ lw_tbl := List.mem_of_getElem? (i := 382) (by decide +kernel)
theorem dX7_begin_34 : decode cX7_begin 34 = .ok (.iconst 0, 1) := by decide +kernel
theorem dX7_begin_35 : decode cX7_begin 35 = .ok (.aload_n 0, 1) := by decide +kernel
theorem dX7_begin_36 : decode cX7_begin 36 = .ok (.getfield 18, 3) := by decide +kernel
theorem G224 : Cond.fieldLink "HookedCity$State" 18 "HookedCity$State" "from" "[I" ∈ GW := gw_i 224 (by decide +kernel) rfl
theorem dX7_begin_39 : decode cX7_begin 39 = .ok (.iconst 0, 1) := by decide +kernel
theorem dX7_begin_40 : decode cX7_begin 40 = .ok (.bipush 9, 2) := by decide +kernel
theorem dX7_begin_42 : decode cX7_begin 42 = .ok (.invokestatic 42, 3) := by decide +kernel
theorem dX7_begin_45 : decode cX7_begin 45 = .ok (.aload_n 0, 1) := by decide +kernel
theorem dX7_begin_46 : decode cX7_begin 46 = .ok (.getfield 21, 3) := by decide +kernel
theorem G227 : Cond.fieldLink "HookedCity$State" 21 "HookedCity$State" "used" "[I" ∈ GW := gw_i 227 (by decide +kernel) rfl
theorem dX7_begin_49 : decode cX7_begin 49 = .ok (.iconst 0, 1) := by decide +kernel
theorem dX7_begin_50 : decode cX7_begin 50 = .ok (.invokestatic 50, 3) := by decide +kernel
theorem G291 : Cond.code ⟨"java/util/Arrays", "fill", "([II)V"⟩ prog_31_method_103_code 4 none ∈ GW := gw_i 291 (by decide +kernel) rfl
theorem G797 : Cond.methodLink "HookedCity$State" 50 ⟨"java/util/Arrays", "fill", "([II)V"⟩ ∈ GW := gw_i 797 (by decide +kernel) rfl
theorem G124 : Cond.initialized "java/util/Arrays" ∈ GW := gw_i 124 (by decide +kernel) rfl
theorem V_HookedCity_State_50 : VL "HookedCity$State" 50 yJ7_fill_53178 cJ7_fill_53178 4 none 2 := ⟨G291, G797, G124, by decide +kernel, by decide +kernel, by decide +kernel⟩
theorem G290 : Cond.static ⟨"java/util/Arrays", "fill", "([II)V"⟩ ∈ GW := gw_i 290 (by decide +kernel) rfl
theorem dX7_begin_53 : decode cX7_begin 53 = .ok (.aload_n 0, 1) := by decide +kernel
theorem dX7_begin_54 : decode cX7_begin 54 = .ok (.iconst 0, 1) := by decide +kernel
theorem dX7_begin_55 : decode cX7_begin 55 = .ok (.putfield 24, 3) := by decide +kernel
theorem G229 : Cond.fieldLink "HookedCity$State" 24 "HookedCity$State" "day" "I" ∈ GW := gw_i 229 (by decide +kernel) rfl
theorem dX7_begin_58 : decode cX7_begin 58 = .ok (.aload_n 0, 1) := by decide +kernel
theorem dX7_begin_59 : decode cX7_begin 59 = .ok (.aload_n 1, 1) := by decide +kernel
theorem dX7_begin_60 : decode cX7_begin 60 = .ok (.getfield 56, 3) := by decide +kernel
theorem N399 : Cond.fieldLinkNest "HookedCity$State" 56 "HookedCity$Town" "spare" "I" "HookedCity" ∈ lw_tbl := List.mem_of_getElem? (i := 399) (by decide +kernel)
theorem dX7_begin_63 : decode cX7_begin 63 = .ok (.putfield 28, 3) := by decide +kernel
theorem G232 : Cond.fieldLink "HookedCity$State" 28 "HookedCity$State" "spares" "I" ∈ GW := gw_i 232 (by decide +kernel) rfl
theorem dX7_begin_66 : decode cX7_begin 66 = .ok (.aload_n 0, 1) := by decide +kernel
theorem dX7_begin_67 : decode cX7_begin 67 = .ok (.iconst 0, 1) := by decide +kernel
theorem dX7_begin_68 : decode cX7_begin 68 = .ok (.putfield 31, 3) := by decide +kernel
theorem G234 : Cond.fieldLink "HookedCity$State" 31 "HookedCity$State" "buttoned" "I" ∈ GW := gw_i 234 (by decide +kernel) rfl
theorem dX7_begin_71 : decode cX7_begin 71 = .ok (.aload_n 0, 1) := by decide +kernel
theorem dX7_begin_72 : decode cX7_begin 72 = .ok (.iconst 0, 1) := by decide +kernel
theorem dX7_begin_73 : decode cX7_begin 73 = .ok (.putfield 34, 3) := by decide +kernel
theorem G236 : Cond.fieldLink "HookedCity$State" 34 "HookedCity$State" "perished" "I" ∈ GW := gw_i 236 (by decide +kernel) rfl
theorem dX7_begin_76 : decode cX7_begin 76 = .ok (.return_, 1) := by decide +kernel
theorem dX7_copy_0 : decode cX7_copy 0 = .ok (.aload_n 1, 1) := by decide +kernel
theorem dX7_copy_1 : decode cX7_copy 1 = .ok (.getfield 9, 3) := by decide +kernel
theorem dX7_copy_4 : decode cX7_copy 4 = .ok (.iconst 0, 1) := by decide +kernel
theorem dX7_copy_5 : decode cX7_copy 5 = .ok (.aload_n 0, 1) := by decide +kernel
theorem dX7_copy_6 : decode cX7_copy 6 = .ok (.getfield 9, 3) := by decide +kernel
theorem dX7_copy_9 : decode cX7_copy 9 = .ok (.iconst 0, 1) := by decide +kernel
theorem dX7_copy_10 : decode cX7_copy 10 = .ok (.bipush 9, 2) := by decide +kernel
theorem dX7_copy_12 : decode cX7_copy 12 = .ok (.invokestatic 42, 3) := by decide +kernel
theorem dX7_copy_15 : decode cX7_copy 15 = .ok (.aload_n 1, 1) := by decide +kernel
theorem dX7_copy_16 : decode cX7_copy 16 = .ok (.getfield 15, 3) := by decide +kernel
theorem dX7_copy_19 : decode cX7_copy 19 = .ok (.iconst 0, 1) := by decide +kernel
theorem dX7_copy_20 : decode cX7_copy 20 = .ok (.aload_n 0, 1) := by decide +kernel
theorem dX7_copy_21 : decode cX7_copy 21 = .ok (.getfield 15, 3) := by decide +kernel
theorem dX7_copy_24 : decode cX7_copy 24 = .ok (.iconst 0, 1) := by decide +kernel
theorem dX7_copy_25 : decode cX7_copy 25 = .ok (.bipush 9, 2) := by decide +kernel
theorem dX7_copy_27 : decode cX7_copy 27 = .ok (.invokestatic 42, 3) := by decide +kernel
theorem dX7_copy_30 : decode cX7_copy 30 = .ok (.aload_n 1, 1) := by decide +kernel
theorem dX7_copy_31 : decode cX7_copy 31 = .ok (.getfield 18, 3) := by decide +kernel
theorem dX7_copy_34 : decode cX7_copy 34 = .ok (.iconst 0, 1) := by decide +kernel
theorem dX7_copy_35 : decode cX7_copy 35 = .ok (.aload_n 0, 1) := by decide +kernel
theorem dX7_copy_36 : decode cX7_copy 36 = .ok (.getfield 18, 3) := by decide +kernel
theorem dX7_copy_39 : decode cX7_copy 39 = .ok (.iconst 0, 1) := by decide +kernel
theorem dX7_copy_40 : decode cX7_copy 40 = .ok (.bipush 9, 2) := by decide +kernel
theorem dX7_copy_42 : decode cX7_copy 42 = .ok (.invokestatic 42, 3) := by decide +kernel
theorem dX7_copy_45 : decode cX7_copy 45 = .ok (.aload_n 1, 1) := by decide +kernel
theorem dX7_copy_46 : decode cX7_copy 46 = .ok (.getfield 21, 3) := by decide +kernel
theorem dX7_copy_49 : decode cX7_copy 49 = .ok (.iconst 0, 1) := by decide +kernel
theorem dX7_copy_50 : decode cX7_copy 50 = .ok (.aload_n 0, 1) := by decide +kernel
theorem dX7_copy_51 : decode cX7_copy 51 = .ok (.getfield 21, 3) := by decide +kernel
theorem dX7_copy_54 : decode cX7_copy 54 = .ok (.iconst 0, 1) := by decide +kernel
theorem dX7_copy_55 : decode cX7_copy 55 = .ok (.iconst 3, 1) := by decide +kernel
theorem dX7_copy_56 : decode cX7_copy 56 = .ok (.invokestatic 42, 3) := by decide +kernel
theorem dX7_copy_59 : decode cX7_copy 59 = .ok (.aload_n 0, 1) := by decide +kernel
theorem dX7_copy_60 : decode cX7_copy 60 = .ok (.aload_n 1, 1) := by decide +kernel
theorem dX7_copy_61 : decode cX7_copy 61 = .ok (.getfield 24, 3) := by decide +kernel
theorem dX7_copy_64 : decode cX7_copy 64 = .ok (.putfield 24, 3) := by decide +kernel
theorem dX7_copy_67 : decode cX7_copy 67 = .ok (.aload_n 0, 1) := by decide +kernel
theorem dX7_copy_68 : decode cX7_copy 68 = .ok (.aload_n 1, 1) := by decide +kernel
theorem dX7_copy_69 : decode cX7_copy 69 = .ok (.getfield 28, 3) := by decide +kernel
theorem dX7_copy_72 : decode cX7_copy 72 = .ok (.putfield 28, 3) := by decide +kernel
theorem dX7_copy_75 : decode cX7_copy 75 = .ok (.aload_n 0, 1) := by decide +kernel
theorem dX7_copy_76 : decode cX7_copy 76 = .ok (.aload_n 1, 1) := by decide +kernel
theorem dX7_copy_77 : decode cX7_copy 77 = .ok (.getfield 31, 3) := by decide +kernel
theorem dX7_copy_80 : decode cX7_copy 80 = .ok (.putfield 31, 3) := by decide +kernel
theorem dX7_copy_83 : decode cX7_copy 83 = .ok (.aload_n 0, 1) := by decide +kernel
theorem dX7_copy_84 : decode cX7_copy 84 = .ok (.aload_n 1, 1) := by decide +kernel
theorem dX7_copy_85 : decode cX7_copy 85 = .ok (.getfield 34, 3) := by decide +kernel
theorem dX7_copy_88 : decode cX7_copy 88 = .ok (.putfield 34, 3) := by decide +kernel
theorem dX7_copy_91 : decode cX7_copy 91 = .ok (.return_, 1) := by decide +kernel
theorem dX9_isStreet_0 : decode cX9_isStreet 0 = .ok (.aload_n 0, 1) := by decide +kernel
theorem dX9_isStreet_1 : decode cX9_isStreet 1 = .ok (.getfield 25, 3) := by decide +kernel
theorem G375 : Cond.fieldLink "HookedCity$Town" 25 "HookedCity$Town" "streets" "[I" ∈ GW := gw_i 375 (by decide +kernel) rfl
theorem dX9_isStreet_4 : decode cX9_isStreet 4 = .ok (.iload_n 1, 1) := by decide +kernel
theorem dX9_isStreet_5 : decode cX9_isStreet 5 = .ok (.iaload, 1) := by decide +kernel
theorem dX9_isStreet_6 : decode cX9_isStreet 6 = .ok (.iload_n 2, 1) := by decide +kernel
theorem dX9_isStreet_7 : decode cX9_isStreet 7 = .ok (.ishr, 1) := by decide +kernel
theorem dX9_isStreet_8 : decode cX9_isStreet 8 = .ok (.iconst 1, 1) := by decide +kernel
theorem dX9_isStreet_9 : decode cX9_isStreet 9 = .ok (.iand, 1) := by decide +kernel
theorem dX9_isStreet_10 : decode cX9_isStreet 10 = .ok (.ifCond .eq 7, 3) := by decide +kernel
theorem dX9_isStreet_17 : decode cX9_isStreet 17 = .ok (.iconst 0, 1) := by decide +kernel
theorem dX9_isStreet_18 : decode cX9_isStreet 18 = .ok (.ireturn, 1) := by decide +kernel
theorem dX9_isStreet_13 : decode cX9_isStreet 13 = .ok (.iconst 1, 1) := by decide +kernel
theorem dX9_isStreet_14 : decode cX9_isStreet 14 = .ok (.goto 4, 3) := by decide +kernel
theorem dX9_fits_0 : decode cX9_fits 0 = .ok (.aload_n 0, 1) := by decide +kernel
theorem dX9_fits_1 : decode cX9_fits 1 = .ok (.getfield 19, 3) := by decide +kernel
theorem G370 : Cond.fieldLink "HookedCity$Town" 19 "HookedCity$Town" "buttons" "[I" ∈ GW := gw_i 370 (by decide +kernel) rfl
theorem dX9_fits_4 : decode cX9_fits 4 = .ok (.iload_n 1, 1) := by decide +kernel
theorem dX9_fits_5 : decode cX9_fits 5 = .ok (.iaload, 1) := by decide +kernel
theorem dX9_fits_6 : decode cX9_fits 6 = .ok (.aload_n 0, 1) := by decide +kernel
theorem dX9_fits_7 : decode cX9_fits 7 = .ok (.getfield 15, 3) := by decide +kernel
theorem G368 : Cond.fieldLink "HookedCity$Town" 15 "HookedCity$Town" "loops" "[I" ∈ GW := gw_i 368 (by decide +kernel) rfl
theorem dX9_fits_10 : decode cX9_fits 10 = .ok (.iload_n 2, 1) := by decide +kernel
theorem dX9_fits_11 : decode cX9_fits 11 = .ok (.iaload, 1) := by decide +kernel
theorem dX9_fits_12 : decode cX9_fits 12 = .ok (.if_icmp .ne 7, 3) := by decide +kernel
theorem dX9_fits_19 : decode cX9_fits 19 = .ok (.iconst 0, 1) := by decide +kernel
theorem dX9_fits_20 : decode cX9_fits 20 = .ok (.ireturn, 1) := by decide +kernel
theorem dX9_fits_15 : decode cX9_fits 15 = .ok (.iconst 1, 1) := by decide +kernel
theorem dX9_fits_16 : decode cX9_fits 16 = .ok (.goto 4, 3) := by decide +kernel
theorem dX7_whyNotInto_0 : decode cX7_whyNotInto 0 = .ok (.iload_n 2, 1) := by decide +kernel
theorem dX7_whyNotInto_1 : decode cX7_whyNotInto 1 = .ok (.iload_n 3, 1) := by decide +kernel
theorem dX7_whyNotInto_2 : decode cX7_whyNotInto 2 = .ok (.if_icmp .ne 5, 3) := by decide +kernel
theorem dX7_whyNotInto_7 : decode cX7_whyNotInto 7 = .ok (.aload_n 1, 1) := by decide +kernel
theorem dX7_whyNotInto_8 : decode cX7_whyNotInto 8 = .ok (.iload_n 2, 1) := by decide +kernel
theorem dX7_whyNotInto_9 : decode cX7_whyNotInto 9 = .ok (.iload_n 3, 1) := by decide +kernel
theorem dX7_whyNotInto_10 : decode cX7_whyNotInto 10 = .ok (.invokevirtual 66, 3) := by decide +kernel
theorem G854 : Cond.code ⟨"HookedCity$Town", "isStreet", "(II)Z"⟩ prog_11_method_23_code 3 (some .boolean) ∈ GW := gw_i 854 (by decide +kernel) rfl
theorem G851 : Cond.methodLink "HookedCity$State" 66 ⟨"HookedCity$Town", "isStreet", "(II)Z"⟩ ∈ GW := gw_i 851 (by decide +kernel) rfl
theorem G128 : Cond.initialized "HookedCity$Town" ∈ GW := gw_i 128 (by decide +kernel) rfl
theorem V_HookedCity_State_66 : VL "HookedCity$State" 66 yX9_isStreet cX9_isStreet 3 (some .boolean) 2 := ⟨G854, G851, G128, by decide +kernel, by decide +kernel, by decide +kernel⟩
theorem G852 : Cond.instanceMethod ⟨"HookedCity$Town", "isStreet", "(II)Z"⟩ ∈ GW := gw_i 852 (by decide +kernel) rfl
theorem G853 : Cond.selects "HookedCity$Town" ⟨"HookedCity$Town", "isStreet", "(II)Z"⟩ ⟨"HookedCity$Town", "isStreet", "(II)Z"⟩ ∈ GW := gw_i 853 (by decide +kernel) rfl
theorem dX7_whyNotInto_13 : decode cX7_whyNotInto 13 = .ok (.ifCond .ne 5, 3) := by decide +kernel
theorem dX7_whyNotInto_18 : decode cX7_whyNotInto 18 = .ok (.aload_n 1, 1) := by decide +kernel
theorem dX7_whyNotInto_19 : decode cX7_whyNotInto 19 = .ok (.iload_n 2, 1) := by decide +kernel
theorem dX7_whyNotInto_20 : decode cX7_whyNotInto 20 = .ok (.iload_n 3, 1) := by decide +kernel
theorem dX7_whyNotInto_21 : decode cX7_whyNotInto 21 = .ok (.invokevirtual 70, 3) := by decide +kernel
theorem G858 : Cond.code ⟨"HookedCity$Town", "fits", "(II)Z"⟩ prog_11_method_22_code 3 (some .boolean) ∈ GW := gw_i 858 (by decide +kernel) rfl
theorem G855 : Cond.methodLink "HookedCity$State" 70 ⟨"HookedCity$Town", "fits", "(II)Z"⟩ ∈ GW := gw_i 855 (by decide +kernel) rfl
theorem V_HookedCity_State_70 : VL "HookedCity$State" 70 yX9_fits cX9_fits 3 (some .boolean) 2 := ⟨G858, G855, G128, by decide +kernel, by decide +kernel, by decide +kernel⟩
theorem G856 : Cond.instanceMethod ⟨"HookedCity$Town", "fits", "(II)Z"⟩ ∈ GW := gw_i 856 (by decide +kernel) rfl
theorem G857 : Cond.selects "HookedCity$Town" ⟨"HookedCity$Town", "fits", "(II)Z"⟩ ⟨"HookedCity$Town", "fits", "(II)Z"⟩ ∈ GW := gw_i 857 (by decide +kernel) rfl
theorem dX7_whyNotInto_24 : decode cX7_whyNotInto 24 = .ok (.ifCond .ne 5, 3) := by decide +kernel
theorem dX7_whyNotInto_29 : decode cX7_whyNotInto 29 = .ok (.aload_n 0, 1) := by decide +kernel
theorem dX7_whyNotInto_30 : decode cX7_whyNotInto 30 = .ok (.getfield 15, 3) := by decide +kernel
theorem dX7_whyNotInto_33 : decode cX7_whyNotInto 33 = .ok (.iload_n 2, 1) := by decide +kernel
theorem dX7_whyNotInto_34 : decode cX7_whyNotInto 34 = .ok (.iaload, 1) := by decide +kernel
theorem dX7_whyNotInto_35 : decode cX7_whyNotInto 35 = .ok (.iconst (-1), 1) := by decide +kernel
theorem dX7_whyNotInto_36 : decode cX7_whyNotInto 36 = .ok (.if_icmp .eq 5, 3) := by decide +kernel
theorem dX7_whyNotInto_41 : decode cX7_whyNotInto 41 = .ok (.aload_n 0, 1) := by decide +kernel
theorem dX7_whyNotInto_42 : decode cX7_whyNotInto 42 = .ok (.getfield 18, 3) := by decide +kernel
theorem dX7_whyNotInto_45 : decode cX7_whyNotInto 45 = .ok (.iload_n 3, 1) := by decide +kernel
theorem dX7_whyNotInto_46 : decode cX7_whyNotInto 46 = .ok (.iaload, 1) := by decide +kernel
theorem dX7_whyNotInto_47 : decode cX7_whyNotInto 47 = .ok (.iconst (-1), 1) := by decide +kernel
theorem dX7_whyNotInto_48 : decode cX7_whyNotInto 48 = .ok (.if_icmp .eq 6, 3) := by decide +kernel
theorem dX7_whyNotInto_54 : decode cX7_whyNotInto 54 = .ok (.aload_n 0, 1) := by decide +kernel
theorem dX7_whyNotInto_55 : decode cX7_whyNotInto 55 = .ok (.getfield 9, 3) := by decide +kernel
theorem dX7_whyNotInto_58 : decode cX7_whyNotInto 58 = .ok (.iload_n 3, 1) := by decide +kernel
theorem dX7_whyNotInto_59 : decode cX7_whyNotInto 59 = .ok (.iaload, 1) := by decide +kernel
theorem dX7_whyNotInto_60 : decode cX7_whyNotInto 60 = .ok (.ifCond .ne 8, 3) := by decide +kernel
theorem dX7_whyNotInto_68 : decode cX7_whyNotInto 68 = .ok (.iconst 0, 1) := by decide +kernel
theorem dX7_whyNotInto_69 : decode cX7_whyNotInto 69 = .ok (.ireturn, 1) := by decide +kernel
theorem dX7_whyNotInto_63 : decode cX7_whyNotInto 63 = .ok (.bipush 7, 2) := by decide +kernel
theorem dX7_whyNotInto_65 : decode cX7_whyNotInto 65 = .ok (.goto 4, 3) := by decide +kernel
theorem dX7_whyNotInto_51 : decode cX7_whyNotInto 51 = .ok (.bipush 6, 2) := by decide +kernel
theorem dX7_whyNotInto_53 : decode cX7_whyNotInto 53 = .ok (.ireturn, 1) := by decide +kernel
theorem dX7_whyNotInto_39 : decode cX7_whyNotInto 39 = .ok (.iconst 5, 1) := by decide +kernel
theorem dX7_whyNotInto_40 : decode cX7_whyNotInto 40 = .ok (.ireturn, 1) := by decide +kernel
theorem dX7_whyNotInto_27 : decode cX7_whyNotInto 27 = .ok (.iconst 4, 1) := by decide +kernel
theorem dX7_whyNotInto_28 : decode cX7_whyNotInto 28 = .ok (.ireturn, 1) := by decide +kernel
theorem dX7_whyNotInto_16 : decode cX7_whyNotInto 16 = .ok (.iconst 3, 1) := by decide +kernel
theorem dX7_whyNotInto_17 : decode cX7_whyNotInto 17 = .ok (.ireturn, 1) := by decide +kernel
theorem dX7_whyNotInto_5 : decode cX7_whyNotInto 5 = .ok (.iconst 2, 1) := by decide +kernel
theorem dX7_whyNotInto_6 : decode cX7_whyNotInto 6 = .ok (.ireturn, 1) := by decide +kernel
theorem dX7_whyNotDoUp_0 : decode cX7_whyNotDoUp 0 = .ok (.aload_n 0, 1) := by decide +kernel
theorem dX7_whyNotDoUp_1 : decode cX7_whyNotDoUp 1 = .ok (.getfield 21, 3) := by decide +kernel
theorem dX7_whyNotDoUp_4 : decode cX7_whyNotDoUp 4 = .ok (.iload_n 2, 1) := by decide +kernel
theorem dX7_whyNotDoUp_5 : decode cX7_whyNotDoUp 5 = .ok (.iaload, 1) := by decide +kernel
theorem dX7_whyNotDoUp_6 : decode cX7_whyNotDoUp 6 = .ok (.aload_n 1, 1) := by decide +kernel
theorem dX7_whyNotDoUp_7 : decode cX7_whyNotDoUp 7 = .ok (.getfield 59, 3) := by decide +kernel
theorem N385 : Cond.fieldLinkNest "HookedCity$State" 59 "HookedCity$Town" "hooks" "[I" "HookedCity" ∈ lw_tbl := List.mem_of_getElem? (i := 385) (by decide +kernel)
theorem dX7_whyNotDoUp_10 : decode cX7_whyNotDoUp 10 = .ok (.iload_n 2, 1) := by decide +kernel
theorem dX7_whyNotDoUp_11 : decode cX7_whyNotDoUp 11 = .ok (.iaload, 1) := by decide +kernel
theorem dX7_whyNotDoUp_12 : decode cX7_whyNotDoUp 12 = .ok (.if_icmp .lt 7, 3) := by decide +kernel
theorem dX7_whyNotDoUp_19 : decode cX7_whyNotDoUp 19 = .ok (.aload_n 0, 1) := by decide +kernel
theorem dX7_whyNotDoUp_20 : decode cX7_whyNotDoUp 20 = .ok (.aload_n 1, 1) := by decide +kernel
theorem dX7_whyNotDoUp_21 : decode cX7_whyNotDoUp 21 = .ok (.iload_n 3, 1) := by decide +kernel
theorem dX7_whyNotDoUp_22 : decode cX7_whyNotDoUp 22 = .ok (.iload 4, 2) := by decide +kernel
theorem dX7_whyNotDoUp_24 : decode cX7_whyNotDoUp 24 = .ok (.invokevirtual 62, 3) := by decide +kernel
theorem G850 : Cond.code ⟨"HookedCity$State", "whyNotInto", "(LHookedCity$Town;II)I"⟩ prog_9_method_5_code 4 (some .int) ∈ GW := gw_i 850 (by decide +kernel) rfl
theorem G847 : Cond.methodLink "HookedCity$State" 62 ⟨"HookedCity$State", "whyNotInto", "(LHookedCity$Town;II)I"⟩ ∈ GW := gw_i 847 (by decide +kernel) rfl
theorem G121 : Cond.initialized "HookedCity$State" ∈ GW := gw_i 121 (by decide +kernel) rfl
theorem V_HookedCity_State_62 : VL "HookedCity$State" 62 yX7_whyNotInto cX7_whyNotInto 4 (some .int) 3 := ⟨G850, G847, G121, by decide +kernel, by decide +kernel, by decide +kernel⟩
theorem G849 : Cond.instanceMethod ⟨"HookedCity$State", "whyNotInto", "(LHookedCity$Town;II)I"⟩ ∈ GW := gw_i 849 (by decide +kernel) rfl
theorem G17 : Cond.selects "HookedCity$State" ⟨"HookedCity$State", "whyNotInto", "(LHookedCity$Town;II)I"⟩ ⟨"HookedCity$State", "whyNotInto", "(LHookedCity$Town;II)I"⟩ ∈ GW := gw_i 17 (by decide +kernel) rfl
theorem dX7_whyNotDoUp_27 : decode cX7_whyNotDoUp 27 = .ok (.ireturn, 1) := by decide +kernel
theorem dX7_whyNotDoUp_15 : decode cX7_whyNotDoUp 15 = .ok (.iconst 1, 1) := by decide +kernel
theorem dX7_whyNotDoUp_16 : decode cX7_whyNotDoUp 16 = .ok (.goto 11, 3) := by decide +kernel
theorem dX7_doUp_0 : decode cX7_doUp 0 = .ok (.aload_n 0, 1) := by decide +kernel
theorem dX7_doUp_1 : decode cX7_doUp 1 = .ok (.getfield 15, 3) := by decide +kernel
theorem dX7_doUp_4 : decode cX7_doUp 4 = .ok (.iload_n 2, 1) := by decide +kernel
theorem dX7_doUp_5 : decode cX7_doUp 5 = .ok (.iload_n 3, 1) := by decide +kernel
theorem dX7_doUp_6 : decode cX7_doUp 6 = .ok (.iastore, 1) := by decide +kernel
theorem dX7_doUp_7 : decode cX7_doUp 7 = .ok (.aload_n 0, 1) := by decide +kernel
theorem dX7_doUp_8 : decode cX7_doUp 8 = .ok (.getfield 18, 3) := by decide +kernel
theorem dX7_doUp_11 : decode cX7_doUp 11 = .ok (.iload_n 3, 1) := by decide +kernel
theorem dX7_doUp_12 : decode cX7_doUp 12 = .ok (.iload_n 2, 1) := by decide +kernel
theorem dX7_doUp_13 : decode cX7_doUp 13 = .ok (.iastore, 1) := by decide +kernel
theorem dX7_doUp_14 : decode cX7_doUp 14 = .ok (.aload_n 0, 1) := by decide +kernel
theorem dX7_doUp_15 : decode cX7_doUp 15 = .ok (.getfield 21, 3) := by decide +kernel
theorem dX7_doUp_18 : decode cX7_doUp 18 = .ok (.iload_n 1, 1) := by decide +kernel
theorem dX7_doUp_19 : decode cX7_doUp 19 = .ok (.dup2, 1) := by decide +kernel
theorem dX7_doUp_20 : decode cX7_doUp 20 = .ok (.iaload, 1) := by decide +kernel
theorem dX7_doUp_21 : decode cX7_doUp 21 = .ok (.iconst 1, 1) := by decide +kernel
theorem dX7_doUp_22 : decode cX7_doUp 22 = .ok (.iadd, 1) := by decide +kernel
theorem dX7_doUp_23 : decode cX7_doUp 23 = .ok (.iastore, 1) := by decide +kernel
theorem dX7_doUp_24 : decode cX7_doUp 24 = .ok (.aload_n 0, 1) := by decide +kernel
theorem dX7_doUp_25 : decode cX7_doUp 25 = .ok (.dup, 1) := by decide +kernel
theorem dX7_doUp_26 : decode cX7_doUp 26 = .ok (.getfield 31, 3) := by decide +kernel
theorem dX7_doUp_29 : decode cX7_doUp 29 = .ok (.iconst 1, 1) := by decide +kernel
theorem dX7_doUp_30 : decode cX7_doUp 30 = .ok (.iadd, 1) := by decide +kernel
theorem dX7_doUp_31 : decode cX7_doUp 31 = .ok (.putfield 31, 3) := by decide +kernel
theorem dX7_doUp_34 : decode cX7_doUp 34 = .ok (.return_, 1) := by decide +kernel
theorem dX7_whyNotLetGo_0 : decode cX7_whyNotLetGo 0 = .ok (.aload_n 0, 1) := by decide +kernel
theorem dX7_whyNotLetGo_1 : decode cX7_whyNotLetGo 1 = .ok (.getfield 21, 3) := by decide +kernel
theorem dX7_whyNotLetGo_4 : decode cX7_whyNotLetGo 4 = .ok (.iload_n 2, 1) := by decide +kernel
theorem dX7_whyNotLetGo_5 : decode cX7_whyNotLetGo 5 = .ok (.iaload, 1) := by decide +kernel
theorem dX7_whyNotLetGo_6 : decode cX7_whyNotLetGo 6 = .ok (.aload_n 1, 1) := by decide +kernel
theorem dX7_whyNotLetGo_7 : decode cX7_whyNotLetGo 7 = .ok (.getfield 59, 3) := by decide +kernel
theorem dX7_whyNotLetGo_10 : decode cX7_whyNotLetGo 10 = .ok (.iload_n 2, 1) := by decide +kernel
theorem dX7_whyNotLetGo_11 : decode cX7_whyNotLetGo 11 = .ok (.iaload, 1) := by decide +kernel
theorem dX7_whyNotLetGo_12 : decode cX7_whyNotLetGo 12 = .ok (.if_icmp .lt 5, 3) := by decide +kernel
theorem dX7_whyNotLetGo_17 : decode cX7_whyNotLetGo 17 = .ok (.aload_n 0, 1) := by decide +kernel
theorem dX7_whyNotLetGo_18 : decode cX7_whyNotLetGo 18 = .ok (.getfield 15, 3) := by decide +kernel
theorem dX7_whyNotLetGo_21 : decode cX7_whyNotLetGo 21 = .ok (.iload_n 3, 1) := by decide +kernel
theorem dX7_whyNotLetGo_22 : decode cX7_whyNotLetGo 22 = .ok (.iaload, 1) := by decide +kernel
theorem dX7_whyNotLetGo_23 : decode cX7_whyNotLetGo 23 = .ok (.iconst (-1), 1) := by decide +kernel
theorem dX7_whyNotLetGo_24 : decode cX7_whyNotLetGo 24 = .ok (.if_icmp .ne 7, 3) := by decide +kernel
theorem dX7_whyNotLetGo_31 : decode cX7_whyNotLetGo 31 = .ok (.iconst 0, 1) := by decide +kernel
theorem dX7_whyNotLetGo_32 : decode cX7_whyNotLetGo 32 = .ok (.ireturn, 1) := by decide +kernel
theorem dX7_whyNotLetGo_27 : decode cX7_whyNotLetGo 27 = .ok (.iconst 2, 1) := by decide +kernel
theorem dX7_whyNotLetGo_28 : decode cX7_whyNotLetGo 28 = .ok (.goto 4, 3) := by decide +kernel
theorem dX7_whyNotLetGo_15 : decode cX7_whyNotLetGo 15 = .ok (.iconst 1, 1) := by decide +kernel
theorem dX7_whyNotLetGo_16 : decode cX7_whyNotLetGo 16 = .ok (.ireturn, 1) := by decide +kernel
theorem dX7_takeOut_0 : decode cX7_takeOut 0 = .ok (.aload_n 0, 1) := by decide +kernel
theorem dX7_takeOut_1 : decode cX7_takeOut 1 = .ok (.getfield 15, 3) := by decide +kernel
theorem dX7_takeOut_4 : decode cX7_takeOut 4 = .ok (.iload_n 1, 1) := by decide +kernel
theorem dX7_takeOut_5 : decode cX7_takeOut 5 = .ok (.iaload, 1) := by decide +kernel
theorem dX7_takeOut_6 : decode cX7_takeOut 6 = .ok (.istore_n 2, 1) := by decide +kernel
theorem dX7_takeOut_7 : decode cX7_takeOut 7 = .ok (.iload_n 2, 1) := by decide +kernel
theorem dX7_takeOut_8 : decode cX7_takeOut 8 = .ok (.iconst (-1), 1) := by decide +kernel
theorem dX7_takeOut_9 : decode cX7_takeOut 9 = .ok (.if_icmp .eq 17, 3) := by decide +kernel
theorem dX7_takeOut_26 : decode cX7_takeOut 26 = .ok (.return_, 1) := by decide +kernel
theorem dX7_takeOut_12 : decode cX7_takeOut 12 = .ok (.aload_n 0, 1) := by decide +kernel
theorem dX7_takeOut_13 : decode cX7_takeOut 13 = .ok (.getfield 18, 3) := by decide +kernel
theorem dX7_takeOut_16 : decode cX7_takeOut 16 = .ok (.iload_n 2, 1) := by decide +kernel
theorem dX7_takeOut_17 : decode cX7_takeOut 17 = .ok (.iconst (-1), 1) := by decide +kernel
theorem dX7_takeOut_18 : decode cX7_takeOut 18 = .ok (.iastore, 1) := by decide +kernel
theorem dX7_takeOut_19 : decode cX7_takeOut 19 = .ok (.aload_n 0, 1) := by decide +kernel
theorem dX7_takeOut_20 : decode cX7_takeOut 20 = .ok (.getfield 15, 3) := by decide +kernel
theorem dX7_takeOut_23 : decode cX7_takeOut 23 = .ok (.iload_n 1, 1) := by decide +kernel
theorem dX7_takeOut_24 : decode cX7_takeOut 24 = .ok (.iconst (-1), 1) := by decide +kernel
theorem dX7_takeOut_25 : decode cX7_takeOut 25 = .ok (.iastore, 1) := by decide +kernel
theorem dX7_letGo_0 : decode cX7_letGo 0 = .ok (.aload_n 0, 1) := by decide +kernel
theorem dX7_letGo_1 : decode cX7_letGo 1 = .ok (.iload_n 2, 1) := by decide +kernel
theorem dX7_letGo_2 : decode cX7_letGo 2 = .ok (.invokevirtual 73, 3) := by decide +kernel
theorem G887 : Cond.code ⟨"HookedCity$State", "takeOut", "(I)V"⟩ prog_9_method_9_code 3 none ∈ GW := gw_i 887 (by decide +kernel) rfl
theorem G884 : Cond.methodLink "HookedCity$State" 73 ⟨"HookedCity$State", "takeOut", "(I)V"⟩ ∈ GW := gw_i 884 (by decide +kernel) rfl
theorem V_HookedCity_State_73 : VL "HookedCity$State" 73 yX7_takeOut cX7_takeOut 3 none 1 := ⟨G887, G884, G121, by decide +kernel, by decide +kernel, by decide +kernel⟩
theorem G886 : Cond.instanceMethod ⟨"HookedCity$State", "takeOut", "(I)V"⟩ ∈ GW := gw_i 886 (by decide +kernel) rfl
theorem G19 : Cond.selects "HookedCity$State" ⟨"HookedCity$State", "takeOut", "(I)V"⟩ ⟨"HookedCity$State", "takeOut", "(I)V"⟩ ∈ GW := gw_i 19 (by decide +kernel) rfl
theorem dX7_letGo_5 : decode cX7_letGo 5 = .ok (.aload_n 0, 1) := by decide +kernel
theorem dX7_letGo_6 : decode cX7_letGo 6 = .ok (.getfield 21, 3) := by decide +kernel
theorem dX7_letGo_9 : decode cX7_letGo 9 = .ok (.iload_n 1, 1) := by decide +kernel
theorem dX7_letGo_10 : decode cX7_letGo 10 = .ok (.dup2, 1) := by decide +kernel
theorem dX7_letGo_11 : decode cX7_letGo 11 = .ok (.iaload, 1) := by decide +kernel
theorem dX7_letGo_12 : decode cX7_letGo 12 = .ok (.iconst 1, 1) := by decide +kernel
theorem dX7_letGo_13 : decode cX7_letGo 13 = .ok (.iadd, 1) := by decide +kernel
theorem dX7_letGo_14 : decode cX7_letGo 14 = .ok (.iastore, 1) := by decide +kernel
theorem dX7_letGo_15 : decode cX7_letGo 15 = .ok (.return_, 1) := by decide +kernel
theorem dX7_whyNotSew_0 : decode cX7_whyNotSew 0 = .ok (.aload_n 0, 1) := by decide +kernel
theorem dX7_whyNotSew_1 : decode cX7_whyNotSew 1 = .ok (.getfield 9, 3) := by decide +kernel
theorem dX7_whyNotSew_4 : decode cX7_whyNotSew 4 = .ok (.iload_n 2, 1) := by decide +kernel
theorem dX7_whyNotSew_5 : decode cX7_whyNotSew 5 = .ok (.iaload, 1) := by decide +kernel
theorem dX7_whyNotSew_6 : decode cX7_whyNotSew 6 = .ok (.aload_n 1, 1) := by decide +kernel
theorem dX7_whyNotSew_7 : decode cX7_whyNotSew 7 = .ok (.getfield 37, 3) := by decide +kernel
theorem dX7_whyNotSew_10 : decode cX7_whyNotSew 10 = .ok (.iload_n 2, 1) := by decide +kernel
theorem dX7_whyNotSew_11 : decode cX7_whyNotSew 11 = .ok (.iaload, 1) := by decide +kernel
theorem dX7_whyNotSew_12 : decode cX7_whyNotSew 12 = .ok (.if_icmp .ne 5, 3) := by decide +kernel
theorem dX7_whyNotSew_17 : decode cX7_whyNotSew 17 = .ok (.aload_n 0, 1) := by decide +kernel
theorem dX7_whyNotSew_18 : decode cX7_whyNotSew 18 = .ok (.getfield 28, 3) := by decide +kernel
theorem dX7_whyNotSew_21 : decode cX7_whyNotSew 21 = .ok (.ifCond .ne 7, 3) := by decide +kernel
theorem dX7_whyNotSew_28 : decode cX7_whyNotSew 28 = .ok (.iconst 0, 1) := by decide +kernel
theorem dX7_whyNotSew_29 : decode cX7_whyNotSew 29 = .ok (.ireturn, 1) := by decide +kernel
theorem dX7_whyNotSew_24 : decode cX7_whyNotSew 24 = .ok (.iconst 2, 1) := by decide +kernel
theorem dX7_whyNotSew_25 : decode cX7_whyNotSew 25 = .ok (.goto 4, 3) := by decide +kernel
theorem dX7_whyNotSew_15 : decode cX7_whyNotSew 15 = .ok (.iconst 1, 1) := by decide +kernel
theorem dX7_whyNotSew_16 : decode cX7_whyNotSew 16 = .ok (.ireturn, 1) := by decide +kernel
theorem dX7_sew_0 : decode cX7_sew 0 = .ok (.aload_n 0, 1) := by decide +kernel
theorem dX7_sew_1 : decode cX7_sew 1 = .ok (.dup, 1) := by decide +kernel
theorem dX7_sew_2 : decode cX7_sew 2 = .ok (.getfield 28, 3) := by decide +kernel
theorem dX7_sew_5 : decode cX7_sew 5 = .ok (.iconst 1, 1) := by decide +kernel
theorem dX7_sew_6 : decode cX7_sew 6 = .ok (.isub, 1) := by decide +kernel
theorem dX7_sew_7 : decode cX7_sew 7 = .ok (.putfield 28, 3) := by decide +kernel
theorem dX7_sew_10 : decode cX7_sew 10 = .ok (.aload_n 0, 1) := by decide +kernel
theorem dX7_sew_11 : decode cX7_sew 11 = .ok (.getfield 9, 3) := by decide +kernel
theorem dX7_sew_14 : decode cX7_sew 14 = .ok (.iload_n 2, 1) := by decide +kernel
theorem dX7_sew_15 : decode cX7_sew 15 = .ok (.aload_n 1, 1) := by decide +kernel
theorem dX7_sew_16 : decode cX7_sew 16 = .ok (.getfield 37, 3) := by decide +kernel
theorem dX7_sew_19 : decode cX7_sew 19 = .ok (.iload_n 2, 1) := by decide +kernel
theorem dX7_sew_20 : decode cX7_sew 20 = .ok (.iaload, 1) := by decide +kernel
theorem dX7_sew_21 : decode cX7_sew 21 = .ok (.iastore, 1) := by decide +kernel
theorem dX7_sew_22 : decode cX7_sew 22 = .ok (.return_, 1) := by decide +kernel
theorem dX9_wearsOn_0 : decode cX9_wearsOn 0 = .ok (.iload_n 1, 1) := by decide +kernel
theorem dX9_wearsOn_1 : decode cX9_wearsOn 1 = .ok (.sipush 400, 3) := by decide +kernel
theorem dX9_wearsOn_4 : decode cX9_wearsOn 4 = .ok (.if_icmp .ge 27, 3) := by decide +kernel
theorem dX9_wearsOn_31 : decode cX9_wearsOn 31 = .ok (.iconst 0, 1) := by decide +kernel
theorem dX9_wearsOn_32 : decode cX9_wearsOn 32 = .ok (.ireturn, 1) := by decide +kernel
theorem dX9_wearsOn_7 : decode cX9_wearsOn 7 = .ok (.aload_n 0, 1) := by decide +kernel
theorem dX9_wearsOn_8 : decode cX9_wearsOn 8 = .ok (.getfield 53, 3) := by decide +kernel
theorem G400 : Cond.fieldLink "HookedCity$Town" 53 "HookedCity$Town" "year" "I" ∈ GW := gw_i 400 (by decide +kernel) rfl
theorem dX9_wearsOn_11 : decode cX9_wearsOn 11 = .ok (.ifCond .le 20, 3) := by decide +kernel
theorem dX9_wearsOn_14 : decode cX9_wearsOn 14 = .ok (.iload_n 1, 1) := by decide +kernel
theorem dX9_wearsOn_15 : decode cX9_wearsOn 15 = .ok (.aload_n 0, 1) := by decide +kernel
theorem dX9_wearsOn_16 : decode cX9_wearsOn 16 = .ok (.getfield 53, 3) := by decide +kernel
theorem dX9_wearsOn_19 : decode cX9_wearsOn 19 = .ok (.irem, 1) := by decide +kernel
theorem dX9_wearsOn_20 : decode cX9_wearsOn 20 = .ok (.aload_n 0, 1) := by decide +kernel
theorem dX9_wearsOn_21 : decode cX9_wearsOn 21 = .ok (.getfield 56, 3) := by decide +kernel
theorem G402 : Cond.fieldLink "HookedCity$Town" 56 "HookedCity$Town" "july" "I" ∈ GW := gw_i 402 (by decide +kernel) rfl
theorem dX9_wearsOn_24 : decode cX9_wearsOn 24 = .ok (.if_icmp .ge 7, 3) := by decide +kernel
theorem dX9_wearsOn_27 : decode cX9_wearsOn 27 = .ok (.iconst 1, 1) := by decide +kernel
theorem dX9_wearsOn_28 : decode cX9_wearsOn 28 = .ok (.goto 4, 3) := by decide +kernel
theorem dX7_wear_0 : decode cX7_wear 0 = .ok (.aload_n 0, 1) := by decide +kernel
theorem dX7_wear_1 : decode cX7_wear 1 = .ok (.getfield 18, 3) := by decide +kernel
theorem dX7_wear_4 : decode cX7_wear 4 = .ok (.iload_n 1, 1) := by decide +kernel
theorem dX7_wear_5 : decode cX7_wear 5 = .ok (.iaload, 1) := by decide +kernel
theorem dX7_wear_6 : decode cX7_wear 6 = .ok (.istore_n 2, 1) := by decide +kernel
theorem dX7_wear_7 : decode cX7_wear 7 = .ok (.iload_n 2, 1) := by decide +kernel
theorem dX7_wear_8 : decode cX7_wear 8 = .ok (.iconst (-1), 1) := by decide +kernel
theorem dX7_wear_9 : decode cX7_wear 9 = .ok (.if_icmp .ne 4, 3) := by decide +kernel
theorem dX7_wear_13 : decode cX7_wear 13 = .ok (.aload_n 0, 1) := by decide +kernel
theorem dX7_wear_14 : decode cX7_wear 14 = .ok (.getfield 9, 3) := by decide +kernel
theorem dX7_wear_17 : decode cX7_wear 17 = .ok (.iload_n 1, 1) := by decide +kernel
theorem dX7_wear_18 : decode cX7_wear 18 = .ok (.dup2, 1) := by decide +kernel
theorem dX7_wear_19 : decode cX7_wear 19 = .ok (.iaload, 1) := by decide +kernel
theorem dX7_wear_20 : decode cX7_wear 20 = .ok (.iconst 1, 1) := by decide +kernel
theorem dX7_wear_21 : decode cX7_wear 21 = .ok (.isub, 1) := by decide +kernel
theorem dX7_wear_22 : decode cX7_wear 22 = .ok (.iastore, 1) := by decide +kernel
theorem dX7_wear_23 : decode cX7_wear 23 = .ok (.aload_n 0, 1) := by decide +kernel
theorem dX7_wear_24 : decode cX7_wear 24 = .ok (.getfield 9, 3) := by decide +kernel
theorem dX7_wear_27 : decode cX7_wear 27 = .ok (.iload_n 1, 1) := by decide +kernel
theorem dX7_wear_28 : decode cX7_wear 28 = .ok (.iaload, 1) := by decide +kernel
theorem dX7_wear_29 : decode cX7_wear 29 = .ok (.ifCond .ne 18, 3) := by decide +kernel
theorem dX7_wear_47 : decode cX7_wear 47 = .ok (.return_, 1) := by decide +kernel
theorem dX7_wear_32 : decode cX7_wear 32 = .ok (.aload_n 0, 1) := by decide +kernel
theorem dX7_wear_33 : decode cX7_wear 33 = .ok (.dup, 1) := by decide +kernel
theorem dX7_wear_34 : decode cX7_wear 34 = .ok (.getfield 34, 3) := by decide +kernel
theorem dX7_wear_37 : decode cX7_wear 37 = .ok (.iconst 1, 1) := by decide +kernel
theorem dX7_wear_38 : decode cX7_wear 38 = .ok (.iadd, 1) := by decide +kernel
theorem dX7_wear_39 : decode cX7_wear 39 = .ok (.putfield 34, 3) := by decide +kernel
theorem dX7_wear_42 : decode cX7_wear 42 = .ok (.aload_n 0, 1) := by decide +kernel
theorem dX7_wear_43 : decode cX7_wear 43 = .ok (.iload_n 2, 1) := by decide +kernel
theorem dX7_wear_44 : decode cX7_wear 44 = .ok (.invokevirtual 73, 3) := by decide +kernel
theorem dX7_wear_12 : decode cX7_wear 12 = .ok (.return_, 1) := by decide +kernel
theorem dX7_passDay_0 : decode cX7_passDay 0 = .ok (.aload_n 1, 1) := by decide +kernel
theorem dX7_passDay_1 : decode cX7_passDay 1 = .ok (.aload_n 0, 1) := by decide +kernel
theorem dX7_passDay_2 : decode cX7_passDay 2 = .ok (.getfield 24, 3) := by decide +kernel
theorem dX7_passDay_5 : decode cX7_passDay 5 = .ok (.invokevirtual 81, 3) := by decide +kernel
theorem G834 : Cond.code ⟨"HookedCity$Town", "wearsOn", "(I)Z"⟩ prog_11_method_24_code 2 (some .boolean) ∈ GW := gw_i 834 (by decide +kernel) rfl
theorem G912 : Cond.methodLink "HookedCity$State" 81 ⟨"HookedCity$Town", "wearsOn", "(I)Z"⟩ ∈ GW := gw_i 912 (by decide +kernel) rfl
theorem V_HookedCity_State_81 : VL "HookedCity$State" 81 yX9_wearsOn cX9_wearsOn 2 (some .boolean) 1 := ⟨G834, G912, G128, by decide +kernel, by decide +kernel, by decide +kernel⟩
theorem G832 : Cond.instanceMethod ⟨"HookedCity$Town", "wearsOn", "(I)Z"⟩ ∈ GW := gw_i 832 (by decide +kernel) rfl
theorem G833 : Cond.selects "HookedCity$Town" ⟨"HookedCity$Town", "wearsOn", "(I)Z"⟩ ⟨"HookedCity$Town", "wearsOn", "(I)Z"⟩ ∈ GW := gw_i 833 (by decide +kernel) rfl
theorem dX7_passDay_8 : decode cX7_passDay 8 = .ok (.ifCond .eq 24, 3) := by decide +kernel
theorem dX7_passDay_32 : decode cX7_passDay 32 = .ok (.aload_n 0, 1) := by decide +kernel
theorem dX7_passDay_33 : decode cX7_passDay 33 = .ok (.dup, 1) := by decide +kernel
theorem dX7_passDay_34 : decode cX7_passDay 34 = .ok (.getfield 24, 3) := by decide +kernel
theorem dX7_passDay_37 : decode cX7_passDay 37 = .ok (.iconst 1, 1) := by decide +kernel
theorem dX7_passDay_38 : decode cX7_passDay 38 = .ok (.iadd, 1) := by decide +kernel
theorem dX7_passDay_39 : decode cX7_passDay 39 = .ok (.putfield 24, 3) := by decide +kernel
theorem dX7_passDay_42 : decode cX7_passDay 42 = .ok (.aload_n 0, 1) := by decide +kernel
theorem dX7_passDay_43 : decode cX7_passDay 43 = .ok (.getfield 21, 3) := by decide +kernel
theorem dX7_passDay_46 : decode cX7_passDay 46 = .ok (.iconst 0, 1) := by decide +kernel
theorem dX7_passDay_47 : decode cX7_passDay 47 = .ok (.invokestatic 50, 3) := by decide +kernel
theorem dX7_passDay_50 : decode cX7_passDay 50 = .ok (.return_, 1) := by decide +kernel
theorem dX7_passDay_11 : decode cX7_passDay 11 = .ok (.iconst 0, 1) := by decide +kernel
theorem dX7_passDay_12 : decode cX7_passDay 12 = .ok (.istore_n 2, 1) := by decide +kernel
theorem dX7_passDay_13 : decode cX7_passDay 13 = .ok (.iload_n 2, 1) := by decide +kernel
theorem dX7_passDay_14 : decode cX7_passDay 14 = .ok (.aload_n 1, 1) := by decide +kernel
theorem dX7_passDay_15 : decode cX7_passDay 15 = .ok (.getfield 85, 3) := by decide +kernel
theorem N390 : Cond.fieldLinkNest "HookedCity$State" 85 "HookedCity$Town" "persons" "I" "HookedCity" ∈ lw_tbl := List.mem_of_getElem? (i := 390) (by decide +kernel)
theorem dX7_passDay_18 : decode cX7_passDay 18 = .ok (.if_icmp .ge 14, 3) := by decide +kernel
theorem dX7_passDay_21 : decode cX7_passDay 21 = .ok (.aload_n 0, 1) := by decide +kernel
theorem dX7_passDay_22 : decode cX7_passDay 22 = .ok (.iload_n 2, 1) := by decide +kernel
theorem dX7_passDay_23 : decode cX7_passDay 23 = .ok (.invokevirtual 88, 3) := by decide +kernel
theorem G916 : Cond.code ⟨"HookedCity$State", "wear", "(I)V"⟩ prog_9_method_14_code 3 none ∈ GW := gw_i 916 (by decide +kernel) rfl
theorem G913 : Cond.methodLink "HookedCity$State" 88 ⟨"HookedCity$State", "wear", "(I)V"⟩ ∈ GW := gw_i 913 (by decide +kernel) rfl
theorem V_HookedCity_State_88 : VL "HookedCity$State" 88 yX7_wear cX7_wear 3 none 1 := ⟨G916, G913, G121, by decide +kernel, by decide +kernel, by decide +kernel⟩
theorem G915 : Cond.instanceMethod ⟨"HookedCity$State", "wear", "(I)V"⟩ ∈ GW := gw_i 915 (by decide +kernel) rfl
theorem G21 : Cond.selects "HookedCity$State" ⟨"HookedCity$State", "wear", "(I)V"⟩ ⟨"HookedCity$State", "wear", "(I)V"⟩ ∈ GW := gw_i 21 (by decide +kernel) rfl
theorem dX7_passDay_26 : decode cX7_passDay 26 = .ok (.iinc 2 1, 3) := by decide +kernel
theorem dX7_passDay_29 : decode cX7_passDay 29 = .ok (.goto (-16), 3) := by decide +kernel
theorem dX7_passDays_0 : decode cX7_passDays 0 = .ok (.iconst 0, 1) := by decide +kernel
theorem dX7_passDays_1 : decode cX7_passDays 1 = .ok (.istore_n 3, 1) := by decide +kernel
theorem dX7_passDays_2 : decode cX7_passDays 2 = .ok (.iload_n 3, 1) := by decide +kernel
theorem dX7_passDays_3 : decode cX7_passDays 3 = .ok (.iload_n 2, 1) := by decide +kernel
theorem dX7_passDays_4 : decode cX7_passDays 4 = .ok (.if_icmp .ge 24, 3) := by decide +kernel
theorem dX7_passDays_28 : decode cX7_passDays 28 = .ok (.iload_n 3, 1) := by decide +kernel
theorem dX7_passDays_29 : decode cX7_passDays 29 = .ok (.ireturn, 1) := by decide +kernel
theorem dX7_passDays_7 : decode cX7_passDays 7 = .ok (.aload_n 0, 1) := by decide +kernel
theorem dX7_passDays_8 : decode cX7_passDays 8 = .ok (.getfield 24, 3) := by decide +kernel
theorem dX7_passDays_11 : decode cX7_passDays 11 = .ok (.sipush 400, 3) := by decide +kernel
theorem dX7_passDays_14 : decode cX7_passDays 14 = .ok (.if_icmp .ge 14, 3) := by decide +kernel
theorem dX7_passDays_17 : decode cX7_passDays 17 = .ok (.aload_n 0, 1) := by decide +kernel
theorem dX7_passDays_18 : decode cX7_passDays 18 = .ok (.aload_n 1, 1) := by decide +kernel
theorem dX7_passDays_19 : decode cX7_passDays 19 = .ok (.invokevirtual 77, 3) := by decide +kernel
theorem G911 : Cond.code ⟨"HookedCity$State", "passDay", "(LHookedCity$Town;)V"⟩ prog_9_method_13_code 3 none ∈ GW := gw_i 911 (by decide +kernel) rfl
theorem G908 : Cond.methodLink "HookedCity$State" 77 ⟨"HookedCity$State", "passDay", "(LHookedCity$Town;)V"⟩ ∈ GW := gw_i 908 (by decide +kernel) rfl
theorem V_HookedCity_State_77 : VL "HookedCity$State" 77 yX7_passDay cX7_passDay 3 none 1 := ⟨G911, G908, G121, by decide +kernel, by decide +kernel, by decide +kernel⟩
theorem G910 : Cond.instanceMethod ⟨"HookedCity$State", "passDay", "(LHookedCity$Town;)V"⟩ ∈ GW := gw_i 910 (by decide +kernel) rfl
theorem G20 : Cond.selects "HookedCity$State" ⟨"HookedCity$State", "passDay", "(LHookedCity$Town;)V"⟩ ⟨"HookedCity$State", "passDay", "(LHookedCity$Town;)V"⟩ ∈ GW := gw_i 20 (by decide +kernel) rfl
theorem dX7_passDays_22 : decode cX7_passDays 22 = .ok (.iinc 3 1, 3) := by decide +kernel
theorem dX7_passDays_25 : decode cX7_passDays 25 = .ok (.goto (-23), 3) := by decide +kernel
theorem dX7_nextSeed_0 : decode cX7_nextSeed 0 = .ok (.iload_n 0, 1) := by decide +kernel
theorem dX7_nextSeed_1 : decode cX7_nextSeed 1 = .ok (.ldc 120, 2) := by decide +kernel
theorem G1147 : Cond.constant "HookedCity$State" 120 1103515245 ∈ GW := gw_i 1147 (by decide +kernel) rfl
theorem dX7_nextSeed_3 : decode cX7_nextSeed 3 = .ok (.imul, 1) := by decide +kernel
theorem dX7_nextSeed_4 : decode cX7_nextSeed 4 = .ok (.sipush 12345, 3) := by decide +kernel
theorem dX7_nextSeed_7 : decode cX7_nextSeed 7 = .ok (.iadd, 1) := by decide +kernel
theorem dX7_nextSeed_8 : decode cX7_nextSeed 8 = .ok (.ireturn, 1) := by decide +kernel
theorem dX7_draw_0 : decode cX7_draw 0 = .ok (.iload_n 1, 1) := by decide +kernel
theorem dX7_draw_1 : decode cX7_draw 1 = .ok (.ifCond .le 12, 3) := by decide +kernel
theorem dX7_draw_4 : decode cX7_draw 4 = .ok (.iload_n 0, 1) := by decide +kernel
theorem dX7_draw_5 : decode cX7_draw 5 = .ok (.bipush 8, 2) := by decide +kernel
theorem dX7_draw_7 : decode cX7_draw 7 = .ok (.iushr, 1) := by decide +kernel
theorem dX7_draw_8 : decode cX7_draw 8 = .ok (.iload_n 1, 1) := by decide +kernel
theorem dX7_draw_9 : decode cX7_draw 9 = .ok (.irem, 1) := by decide +kernel
theorem dX7_draw_10 : decode cX7_draw 10 = .ok (.goto 4, 3) := by decide +kernel
theorem dX7_draw_14 : decode cX7_draw 14 = .ok (.ireturn, 1) := by decide +kernel
theorem dX7_drawAct_0 : decode cX7_drawAct 0 = .ok (.iload_n 3, 1) := by decide +kernel
theorem dX7_drawAct_1 : decode cX7_drawAct 1 = .ok (.invokestatic 97, 3) := by decide +kernel
theorem G1146 : Cond.code ⟨"HookedCity$State", "nextSeed", "(I)I"⟩ prog_9_method_17_code 1 (some .int) ∈ GW := gw_i 1146 (by decide +kernel) rfl
theorem G1144 : Cond.methodLink "HookedCity$State" 97 ⟨"HookedCity$State", "nextSeed", "(I)I"⟩ ∈ GW := gw_i 1144 (by decide +kernel) rfl
theorem V_HookedCity_State_97 : VL "HookedCity$State" 97 yX7_nextSeed cX7_nextSeed 1 (some .int) 1 := ⟨G1146, G1144, G121, by decide +kernel, by decide +kernel, by decide +kernel⟩
theorem G1145 : Cond.static ⟨"HookedCity$State", "nextSeed", "(I)I"⟩ ∈ GW := gw_i 1145 (by decide +kernel) rfl
theorem dX7_drawAct_4 : decode cX7_drawAct 4 = .ok (.istore 4, 2) := by decide +kernel
theorem dX7_drawAct_6 : decode cX7_drawAct 6 = .ok (.iload 4, 2) := by decide +kernel
theorem dX7_drawAct_8 : decode cX7_drawAct 8 = .ok (.iconst 4, 1) := by decide +kernel
theorem dX7_drawAct_9 : decode cX7_drawAct 9 = .ok (.invokestatic 101, 3) := by decide +kernel
theorem G1150 : Cond.code ⟨"HookedCity$State", "draw", "(II)I"⟩ prog_9_method_18_code 2 (some .int) ∈ GW := gw_i 1150 (by decide +kernel) rfl
theorem G1148 : Cond.methodLink "HookedCity$State" 101 ⟨"HookedCity$State", "draw", "(II)I"⟩ ∈ GW := gw_i 1148 (by decide +kernel) rfl
theorem V_HookedCity_State_101 : VL "HookedCity$State" 101 yX7_draw cX7_draw 2 (some .int) 2 := ⟨G1150, G1148, G121, by decide +kernel, by decide +kernel, by decide +kernel⟩
theorem G1149 : Cond.static ⟨"HookedCity$State", "draw", "(II)I"⟩ ∈ GW := gw_i 1149 (by decide +kernel) rfl
theorem dX7_drawAct_12 : decode cX7_drawAct 12 = .ok (.ifCond .ne 7, 3) := by decide +kernel
theorem dX7_drawAct_19 : decode cX7_drawAct 19 = .ok (.iconst 0, 1) := by decide +kernel
theorem dX7_drawAct_20 : decode cX7_drawAct 20 = .ok (.istore 5, 2) := by decide +kernel
theorem dX7_drawAct_22 : decode cX7_drawAct 22 = .ok (.aload_n 1, 1) := by decide +kernel
theorem dX7_drawAct_23 : decode cX7_drawAct 23 = .ok (.getfield 85, 3) := by decide +kernel
theorem dX7_drawAct_26 : decode cX7_drawAct 26 = .ok (.ifCond .ne 6, 3) := by decide +kernel
theorem dX7_drawAct_32 : decode cX7_drawAct 32 = .ok (.iload 4, 2) := by decide +kernel
theorem dX7_drawAct_34 : decode cX7_drawAct 34 = .ok (.invokestatic 97, 3) := by decide +kernel
theorem dX7_drawAct_37 : decode cX7_drawAct 37 = .ok (.istore 4, 2) := by decide +kernel
theorem dX7_drawAct_39 : decode cX7_drawAct 39 = .ok (.iload 4, 2) := by decide +kernel
theorem dX7_drawAct_41 : decode cX7_drawAct 41 = .ok (.aload_n 1, 1) := by decide +kernel
theorem dX7_drawAct_42 : decode cX7_drawAct 42 = .ok (.getfield 85, 3) := by decide +kernel
theorem dX7_drawAct_45 : decode cX7_drawAct 45 = .ok (.invokestatic 101, 3) := by decide +kernel
theorem dX7_drawAct_48 : decode cX7_drawAct 48 = .ok (.istore 6, 2) := by decide +kernel
theorem dX7_drawAct_50 : decode cX7_drawAct 50 = .ok (.iload 5, 2) := by decide +kernel
theorem dX7_drawAct_52 : decode cX7_drawAct 52 = .ok (.ifCond .eq 24, 3) := by decide +kernel
theorem dX7_drawAct_76 : decode cX7_drawAct 76 = .ok (.iload 4, 2) := by decide +kernel
theorem dX7_drawAct_78 : decode cX7_drawAct 78 = .ok (.invokestatic 97, 3) := by decide +kernel
theorem dX7_drawAct_81 : decode cX7_drawAct 81 = .ok (.istore 4, 2) := by decide +kernel
theorem dX7_drawAct_83 : decode cX7_drawAct 83 = .ok (.iload 4, 2) := by decide +kernel
theorem dX7_drawAct_85 : decode cX7_drawAct 85 = .ok (.aload_n 1, 1) := by decide +kernel
theorem dX7_drawAct_86 : decode cX7_drawAct 86 = .ok (.getfield 85, 3) := by decide +kernel
theorem dX7_drawAct_89 : decode cX7_drawAct 89 = .ok (.invokestatic 101, 3) := by decide +kernel
theorem dX7_drawAct_92 : decode cX7_drawAct 92 = .ok (.istore 7, 2) := by decide +kernel
theorem dX7_drawAct_94 : decode cX7_drawAct 94 = .ok (.aload_n 0, 1) := by decide +kernel
theorem dX7_drawAct_95 : decode cX7_drawAct 95 = .ok (.aload_n 1, 1) := by decide +kernel
theorem dX7_drawAct_96 : decode cX7_drawAct 96 = .ok (.iload_n 2, 1) := by decide +kernel
theorem dX7_drawAct_97 : decode cX7_drawAct 97 = .ok (.iload 6, 2) := by decide +kernel
theorem dX7_drawAct_99 : decode cX7_drawAct 99 = .ok (.iload 7, 2) := by decide +kernel
theorem dX7_drawAct_101 : decode cX7_drawAct 101 = .ok (.invokevirtual 112, 3) := by decide +kernel
theorem G846 : Cond.code ⟨"HookedCity$State", "whyNotDoUp", "(LHookedCity$Town;III)I"⟩ prog_9_method_4_code 5 (some .int) ∈ GW := gw_i 846 (by decide +kernel) rfl
theorem G1153 : Cond.methodLink "HookedCity$State" 112 ⟨"HookedCity$State", "whyNotDoUp", "(LHookedCity$Town;III)I"⟩ ∈ GW := gw_i 1153 (by decide +kernel) rfl
theorem V_HookedCity_State_112 : VL "HookedCity$State" 112 yX7_whyNotDoUp cX7_whyNotDoUp 5 (some .int) 4 := ⟨G846, G1153, G121, by decide +kernel, by decide +kernel, by decide +kernel⟩
theorem G844 : Cond.instanceMethod ⟨"HookedCity$State", "whyNotDoUp", "(LHookedCity$Town;III)I"⟩ ∈ GW := gw_i 844 (by decide +kernel) rfl
theorem G845 : Cond.selects "HookedCity$State" ⟨"HookedCity$State", "whyNotDoUp", "(LHookedCity$Town;III)I"⟩ ⟨"HookedCity$State", "whyNotDoUp", "(LHookedCity$Town;III)I"⟩ ∈ GW := gw_i 845 (by decide +kernel) rfl
theorem dX7_drawAct_104 : decode cX7_drawAct 104 = .ok (.ifCond .ne 12, 3) := by decide +kernel
theorem dX7_drawAct_116 : decode cX7_drawAct 116 = .ok (.iload 4, 2) := by decide +kernel
theorem dX7_drawAct_118 : decode cX7_drawAct 118 = .ok (.ireturn, 1) := by decide +kernel
theorem dX7_drawAct_107 : decode cX7_drawAct 107 = .ok (.aload_n 0, 1) := by decide +kernel
theorem dX7_drawAct_108 : decode cX7_drawAct 108 = .ok (.iload_n 2, 1) := by decide +kernel
theorem dX7_drawAct_109 : decode cX7_drawAct 109 = .ok (.iload 6, 2) := by decide +kernel
theorem dX7_drawAct_111 : decode cX7_drawAct 111 = .ok (.iload 7, 2) := by decide +kernel
theorem dX7_drawAct_113 : decode cX7_drawAct 113 = .ok (.invokevirtual 116, 3) := by decide +kernel
theorem G871 : Cond.code ⟨"HookedCity$State", "doUp", "(III)V"⟩ prog_9_method_6_code 4 none ∈ GW := gw_i 871 (by decide +kernel) rfl
theorem G1154 : Cond.methodLink "HookedCity$State" 116 ⟨"HookedCity$State", "doUp", "(III)V"⟩ ∈ GW := gw_i 1154 (by decide +kernel) rfl
theorem V_HookedCity_State_116 : VL "HookedCity$State" 116 yX7_doUp cX7_doUp 4 none 3 := ⟨G871, G1154, G121, by decide +kernel, by decide +kernel, by decide +kernel⟩
theorem G869 : Cond.instanceMethod ⟨"HookedCity$State", "doUp", "(III)V"⟩ ∈ GW := gw_i 869 (by decide +kernel) rfl
theorem G870 : Cond.selects "HookedCity$State" ⟨"HookedCity$State", "doUp", "(III)V"⟩ ⟨"HookedCity$State", "doUp", "(III)V"⟩ ∈ GW := gw_i 870 (by decide +kernel) rfl
theorem dX7_drawAct_29 : decode cX7_drawAct 29 = .ok (.iload 4, 2) := by decide +kernel
theorem dX7_drawAct_31 : decode cX7_drawAct 31 = .ok (.ireturn, 1) := by decide +kernel
theorem dX7_drawAct_15 : decode cX7_drawAct 15 = .ok (.iconst 1, 1) := by decide +kernel
theorem dX7_drawAct_16 : decode cX7_drawAct 16 = .ok (.goto 4, 3) := by decide +kernel
theorem dX7_drawAct_55 : decode cX7_drawAct 55 = .ok (.aload_n 0, 1) := by decide +kernel
theorem dX7_drawAct_56 : decode cX7_drawAct 56 = .ok (.aload_n 1, 1) := by decide +kernel
theorem dX7_drawAct_57 : decode cX7_drawAct 57 = .ok (.iload_n 2, 1) := by decide +kernel
theorem dX7_drawAct_58 : decode cX7_drawAct 58 = .ok (.iload 6, 2) := by decide +kernel
theorem dX7_drawAct_60 : decode cX7_drawAct 60 = .ok (.invokevirtual 105, 3) := by decide +kernel
theorem G879 : Cond.code ⟨"HookedCity$State", "whyNotLetGo", "(LHookedCity$Town;II)I"⟩ prog_9_method_7_code 4 (some .int) ∈ GW := gw_i 879 (by decide +kernel) rfl
theorem G1151 : Cond.methodLink "HookedCity$State" 105 ⟨"HookedCity$State", "whyNotLetGo", "(LHookedCity$Town;II)I"⟩ ∈ GW := gw_i 1151 (by decide +kernel) rfl
theorem V_HookedCity_State_105 : VL "HookedCity$State" 105 yX7_whyNotLetGo cX7_whyNotLetGo 4 (some .int) 3 := ⟨G879, G1151, G121, by decide +kernel, by decide +kernel, by decide +kernel⟩
theorem G877 : Cond.instanceMethod ⟨"HookedCity$State", "whyNotLetGo", "(LHookedCity$Town;II)I"⟩ ∈ GW := gw_i 877 (by decide +kernel) rfl
theorem G878 : Cond.selects "HookedCity$State" ⟨"HookedCity$State", "whyNotLetGo", "(LHookedCity$Town;II)I"⟩ ⟨"HookedCity$State", "whyNotLetGo", "(LHookedCity$Town;II)I"⟩ ∈ GW := gw_i 878 (by decide +kernel) rfl
theorem dX7_drawAct_63 : decode cX7_drawAct 63 = .ok (.ifCond .ne 10, 3) := by decide +kernel
theorem dX7_drawAct_73 : decode cX7_drawAct 73 = .ok (.iload 4, 2) := by decide +kernel
theorem dX7_drawAct_75 : decode cX7_drawAct 75 = .ok (.ireturn, 1) := by decide +kernel
theorem dX7_drawAct_66 : decode cX7_drawAct 66 = .ok (.aload_n 0, 1) := by decide +kernel
theorem dX7_drawAct_67 : decode cX7_drawAct 67 = .ok (.iload_n 2, 1) := by decide +kernel
theorem dX7_drawAct_68 : decode cX7_drawAct 68 = .ok (.iload 6, 2) := by decide +kernel
theorem dX7_drawAct_70 : decode cX7_drawAct 70 = .ok (.invokevirtual 108, 3) := by decide +kernel
theorem G883 : Cond.code ⟨"HookedCity$State", "letGo", "(II)V"⟩ prog_9_method_8_code 3 none ∈ GW := gw_i 883 (by decide +kernel) rfl
theorem G1152 : Cond.methodLink "HookedCity$State" 108 ⟨"HookedCity$State", "letGo", "(II)V"⟩ ∈ GW := gw_i 1152 (by decide +kernel) rfl
theorem V_HookedCity_State_108 : VL "HookedCity$State" 108 yX7_letGo cX7_letGo 3 none 2 := ⟨G883, G1152, G121, by decide +kernel, by decide +kernel, by decide +kernel⟩
theorem G881 : Cond.instanceMethod ⟨"HookedCity$State", "letGo", "(II)V"⟩ ∈ GW := gw_i 881 (by decide +kernel) rfl
theorem G882 : Cond.selects "HookedCity$State" ⟨"HookedCity$State", "letGo", "(II)V"⟩ ⟨"HookedCity$State", "letGo", "(II)V"⟩ ∈ GW := gw_i 882 (by decide +kernel) rfl
theorem dX7_drawDays_0 : decode cX7_drawDays 0 = .ok (.iconst 0, 1) := by decide +kernel
theorem dX7_drawDays_1 : decode cX7_drawDays 1 = .ok (.istore 4, 2) := by decide +kernel
theorem dX7_drawDays_3 : decode cX7_drawDays 3 = .ok (.iload_n 3, 1) := by decide +kernel
theorem dX7_drawDays_4 : decode cX7_drawDays 4 = .ok (.istore 5, 2) := by decide +kernel
theorem dX7_drawDays_6 : decode cX7_drawDays 6 = .ok (.iload 4, 2) := by decide +kernel
theorem dX7_drawDays_8 : decode cX7_drawDays 8 = .ok (.iload_n 2, 1) := by decide +kernel
theorem dX7_drawDays_9 : decode cX7_drawDays 9 = .ok (.if_icmp .ge 53, 3) := by decide +kernel
theorem dX7_drawDays_62 : decode cX7_drawDays 62 = .ok (.iload 4, 2) := by decide +kernel
theorem dX7_drawDays_64 : decode cX7_drawDays 64 = .ok (.ireturn, 1) := by decide +kernel
theorem dX7_drawDays_12 : decode cX7_drawDays 12 = .ok (.aload_n 0, 1) := by decide +kernel
theorem dX7_drawDays_13 : decode cX7_drawDays 13 = .ok (.getfield 24, 3) := by decide +kernel
theorem dX7_drawDays_16 : decode cX7_drawDays 16 = .ok (.sipush 400, 3) := by decide +kernel
theorem dX7_drawDays_19 : decode cX7_drawDays 19 = .ok (.if_icmp .ge 43, 3) := by decide +kernel
theorem dX7_drawDays_22 : decode cX7_drawDays 22 = .ok (.iconst 0, 1) := by decide +kernel
theorem dX7_drawDays_23 : decode cX7_drawDays 23 = .ok (.istore 6, 2) := by decide +kernel
theorem dX7_drawDays_25 : decode cX7_drawDays 25 = .ok (.iload 6, 2) := by decide +kernel
theorem dX7_drawDays_27 : decode cX7_drawDays 27 = .ok (.aload_n 1, 1) := by decide +kernel
theorem dX7_drawDays_28 : decode cX7_drawDays 28 = .ok (.getfield 91, 3) := by decide +kernel
theorem N394 : Cond.fieldLinkNest "HookedCity$State" 91 "HookedCity$Town" "maids" "I" "HookedCity" ∈ lw_tbl := List.mem_of_getElem? (i := 394) (by decide +kernel)
theorem dX7_drawDays_31 : decode cX7_drawDays 31 = .ok (.if_icmp .ge 20, 3) := by decide +kernel
theorem dX7_drawDays_51 : decode cX7_drawDays 51 = .ok (.aload_n 0, 1) := by decide +kernel
theorem dX7_drawDays_52 : decode cX7_drawDays 52 = .ok (.aload_n 1, 1) := by decide +kernel
theorem dX7_drawDays_53 : decode cX7_drawDays 53 = .ok (.invokevirtual 77, 3) := by decide +kernel
theorem dX7_drawDays_56 : decode cX7_drawDays 56 = .ok (.iinc 4 1, 3) := by decide +kernel
theorem dX7_drawDays_59 : decode cX7_drawDays 59 = .ok (.goto (-53), 3) := by decide +kernel
theorem dX7_drawDays_34 : decode cX7_drawDays 34 = .ok (.aload_n 0, 1) := by decide +kernel
theorem dX7_drawDays_35 : decode cX7_drawDays 35 = .ok (.aload_n 1, 1) := by decide +kernel
theorem dX7_drawDays_36 : decode cX7_drawDays 36 = .ok (.iload 6, 2) := by decide +kernel
theorem dX7_drawDays_38 : decode cX7_drawDays 38 = .ok (.iload 5, 2) := by decide +kernel
theorem dX7_drawDays_40 : decode cX7_drawDays 40 = .ok (.invokevirtual 94, 3) := by decide +kernel
theorem G1143 : Cond.code ⟨"HookedCity$State", "drawAct", "(LHookedCity$Town;II)I"⟩ prog_9_method_16_code 8 (some .int) ∈ GW := gw_i 1143 (by decide +kernel) rfl
theorem G1140 : Cond.methodLink "HookedCity$State" 94 ⟨"HookedCity$State", "drawAct", "(LHookedCity$Town;II)I"⟩ ∈ GW := gw_i 1140 (by decide +kernel) rfl
theorem V_HookedCity_State_94 : VL "HookedCity$State" 94 yX7_drawAct cX7_drawAct 8 (some .int) 3 := ⟨G1143, G1140, G121, by decide +kernel, by decide +kernel, by decide +kernel⟩
theorem G1142 : Cond.instanceMethod ⟨"HookedCity$State", "drawAct", "(LHookedCity$Town;II)I"⟩ ∈ GW := gw_i 1142 (by decide +kernel) rfl
theorem G29 : Cond.selects "HookedCity$State" ⟨"HookedCity$State", "drawAct", "(LHookedCity$Town;II)I"⟩ ⟨"HookedCity$State", "drawAct", "(LHookedCity$Town;II)I"⟩ ∈ GW := gw_i 29 (by decide +kernel) rfl
theorem dX7_drawDays_43 : decode cX7_drawDays 43 = .ok (.istore 5, 2) := by decide +kernel
theorem dX7_drawDays_45 : decode cX7_drawDays 45 = .ok (.iinc 6 1, 3) := by decide +kernel
theorem dX7_drawDays_48 : decode cX7_drawDays 48 = .ok (.goto (-23), 3) := by decide +kernel
theorem dX7_chainOf_0 : decode cX7_chainOf 0 = .ok (.iconst 0, 1) := by decide +kernel
theorem dX7_chainOf_1 : decode cX7_chainOf 1 = .ok (.istore_n 2, 1) := by decide +kernel
theorem dX7_chainOf_2 : decode cX7_chainOf 2 = .ok (.aload_n 0, 1) := by decide +kernel
theorem dX7_chainOf_3 : decode cX7_chainOf 3 = .ok (.getfield 15, 3) := by decide +kernel
theorem dX7_chainOf_6 : decode cX7_chainOf 6 = .ok (.iload_n 1, 1) := by decide +kernel
theorem dX7_chainOf_7 : decode cX7_chainOf 7 = .ok (.iaload, 1) := by decide +kernel
theorem dX7_chainOf_8 : decode cX7_chainOf 8 = .ok (.istore_n 3, 1) := by decide +kernel
theorem dX7_chainOf_9 : decode cX7_chainOf 9 = .ok (.iload_n 3, 1) := by decide +kernel
theorem dX7_chainOf_10 : decode cX7_chainOf 10 = .ok (.iconst (-1), 1) := by decide +kernel
theorem dX7_chainOf_11 : decode cX7_chainOf 11 = .ok (.if_icmp .eq 27, 3) := by decide +kernel
theorem dX7_chainOf_38 : decode cX7_chainOf 38 = .ok (.iload_n 2, 1) := by decide +kernel
theorem dX7_chainOf_39 : decode cX7_chainOf 39 = .ok (.ireturn, 1) := by decide +kernel
theorem dX7_chainOf_14 : decode cX7_chainOf 14 = .ok (.iload_n 3, 1) := by decide +kernel
theorem dX7_chainOf_15 : decode cX7_chainOf 15 = .ok (.iload_n 1, 1) := by decide +kernel
theorem dX7_chainOf_16 : decode cX7_chainOf 16 = .ok (.if_icmp .eq 22, 3) := by decide +kernel
theorem dX7_chainOf_19 : decode cX7_chainOf 19 = .ok (.iload_n 2, 1) := by decide +kernel
theorem dX7_chainOf_20 : decode cX7_chainOf 20 = .ok (.bipush 9, 2) := by decide +kernel
theorem dX7_chainOf_22 : decode cX7_chainOf 22 = .ok (.if_icmp .ge 16, 3) := by decide +kernel
theorem dX7_chainOf_25 : decode cX7_chainOf 25 = .ok (.iinc 2 1, 3) := by decide +kernel
theorem dX7_chainOf_28 : decode cX7_chainOf 28 = .ok (.aload_n 0, 1) := by decide +kernel
theorem dX7_chainOf_29 : decode cX7_chainOf 29 = .ok (.getfield 15, 3) := by decide +kernel
theorem dX7_chainOf_32 : decode cX7_chainOf 32 = .ok (.iload_n 3, 1) := by decide +kernel
theorem dX7_chainOf_33 : decode cX7_chainOf 33 = .ok (.iaload, 1) := by decide +kernel
theorem dX7_chainOf_34 : decode cX7_chainOf 34 = .ok (.istore_n 3, 1) := by decide +kernel
theorem dX7_chainOf_35 : decode cX7_chainOf 35 = .ok (.goto (-26), 3) := by decide +kernel
theorem dX7_onRing_0 : decode cX7_onRing 0 = .ok (.aload_n 0, 1) := by decide +kernel
theorem dX7_onRing_1 : decode cX7_onRing 1 = .ok (.getfield 15, 3) := by decide +kernel
theorem dX7_onRing_4 : decode cX7_onRing 4 = .ok (.iload_n 1, 1) := by decide +kernel
theorem dX7_onRing_5 : decode cX7_onRing 5 = .ok (.iaload, 1) := by decide +kernel
theorem dX7_onRing_6 : decode cX7_onRing 6 = .ok (.istore_n 2, 1) := by decide +kernel
theorem dX7_onRing_7 : decode cX7_onRing 7 = .ok (.iconst 0, 1) := by decide +kernel
theorem dX7_onRing_8 : decode cX7_onRing 8 = .ok (.istore_n 3, 1) := by decide +kernel
theorem dX7_onRing_9 : decode cX7_onRing 9 = .ok (.iload_n 3, 1) := by decide +kernel
theorem dX7_onRing_10 : decode cX7_onRing 10 = .ok (.bipush 9, 2) := by decide +kernel
theorem dX7_onRing_12 : decode cX7_onRing 12 = .ok (.if_icmp .ge 26, 3) := by decide +kernel
theorem dX7_onRing_38 : decode cX7_onRing 38 = .ok (.iload_n 2, 1) := by decide +kernel
theorem dX7_onRing_39 : decode cX7_onRing 39 = .ok (.iload_n 1, 1) := by decide +kernel
theorem dX7_onRing_40 : decode cX7_onRing 40 = .ok (.if_icmp .ne 7, 3) := by decide +kernel
theorem dX7_onRing_47 : decode cX7_onRing 47 = .ok (.iconst 0, 1) := by decide +kernel
theorem dX7_onRing_48 : decode cX7_onRing 48 = .ok (.ireturn, 1) := by decide +kernel
theorem dX7_onRing_43 : decode cX7_onRing 43 = .ok (.iconst 1, 1) := by decide +kernel
theorem dX7_onRing_44 : decode cX7_onRing 44 = .ok (.goto 4, 3) := by decide +kernel
theorem dX7_onRing_15 : decode cX7_onRing 15 = .ok (.iload_n 2, 1) := by decide +kernel
theorem dX7_onRing_16 : decode cX7_onRing 16 = .ok (.iconst (-1), 1) := by decide +kernel
theorem dX7_onRing_17 : decode cX7_onRing 17 = .ok (.if_icmp .eq 21, 3) := by decide +kernel
theorem dX7_onRing_20 : decode cX7_onRing 20 = .ok (.iload_n 2, 1) := by decide +kernel
theorem dX7_onRing_21 : decode cX7_onRing 21 = .ok (.iload_n 1, 1) := by decide +kernel
theorem dX7_onRing_22 : decode cX7_onRing 22 = .ok (.if_icmp .eq 16, 3) := by decide +kernel
theorem dX7_onRing_25 : decode cX7_onRing 25 = .ok (.aload_n 0, 1) := by decide +kernel
theorem dX7_onRing_26 : decode cX7_onRing 26 = .ok (.getfield 15, 3) := by decide +kernel
theorem dX7_onRing_29 : decode cX7_onRing 29 = .ok (.iload_n 2, 1) := by decide +kernel
theorem dX7_onRing_30 : decode cX7_onRing 30 = .ok (.iaload, 1) := by decide +kernel
theorem dX7_onRing_31 : decode cX7_onRing 31 = .ok (.istore_n 2, 1) := by decide +kernel
theorem dX7_onRing_32 : decode cX7_onRing 32 = .ok (.iinc 3 1, 3) := by decide +kernel
theorem dX7_onRing_35 : decode cX7_onRing 35 = .ok (.goto (-26), 3) := by decide +kernel
theorem dX7_togetherWith_0 : decode cX7_togetherWith 0 = .ok (.iconst 1, 1) := by decide +kernel
theorem dX7_togetherWith_1 : decode cX7_togetherWith 1 = .ok (.iload_n 1, 1) := by decide +kernel
theorem dX7_togetherWith_2 : decode cX7_togetherWith 2 = .ok (.ishl, 1) := by decide +kernel
theorem dX7_togetherWith_3 : decode cX7_togetherWith 3 = .ok (.istore_n 2, 1) := by decide +kernel
theorem dX7_togetherWith_4 : decode cX7_togetherWith 4 = .ok (.aload_n 0, 1) := by decide +kernel
theorem dX7_togetherWith_5 : decode cX7_togetherWith 5 = .ok (.getfield 15, 3) := by decide +kernel
theorem dX7_togetherWith_8 : decode cX7_togetherWith 8 = .ok (.iload_n 1, 1) := by decide +kernel
theorem dX7_togetherWith_9 : decode cX7_togetherWith 9 = .ok (.iaload, 1) := by decide +kernel
theorem dX7_togetherWith_10 : decode cX7_togetherWith 10 = .ok (.istore_n 3, 1) := by decide +kernel
theorem dX7_togetherWith_11 : decode cX7_togetherWith 11 = .ok (.iconst 0, 1) := by decide +kernel
theorem dX7_togetherWith_12 : decode cX7_togetherWith 12 = .ok (.istore 4, 2) := by decide +kernel
theorem dX7_togetherWith_14 : decode cX7_togetherWith 14 = .ok (.iload 4, 2) := by decide +kernel
theorem dX7_togetherWith_16 : decode cX7_togetherWith 16 = .ok (.bipush 9, 2) := by decide +kernel
theorem dX7_togetherWith_18 : decode cX7_togetherWith 18 = .ok (.if_icmp .ge 27, 3) := by decide +kernel
theorem dX7_togetherWith_45 : decode cX7_togetherWith 45 = .ok (.aload_n 0, 1) := by decide +kernel
theorem dX7_togetherWith_46 : decode cX7_togetherWith 46 = .ok (.getfield 18, 3) := by decide +kernel
theorem dX7_togetherWith_49 : decode cX7_togetherWith 49 = .ok (.iload_n 1, 1) := by decide +kernel
theorem dX7_togetherWith_50 : decode cX7_togetherWith 50 = .ok (.iaload, 1) := by decide +kernel
theorem dX7_togetherWith_51 : decode cX7_togetherWith 51 = .ok (.istore_n 3, 1) := by decide +kernel
theorem dX7_togetherWith_52 : decode cX7_togetherWith 52 = .ok (.iconst 0, 1) := by decide +kernel
theorem dX7_togetherWith_53 : decode cX7_togetherWith 53 = .ok (.istore 4, 2) := by decide +kernel
theorem dX7_togetherWith_55 : decode cX7_togetherWith 55 = .ok (.iload 4, 2) := by decide +kernel
theorem dX7_togetherWith_57 : decode cX7_togetherWith 57 = .ok (.bipush 9, 2) := by decide +kernel
theorem dX7_togetherWith_59 : decode cX7_togetherWith 59 = .ok (.if_icmp .ge 27, 3) := by decide +kernel
theorem dX7_togetherWith_86 : decode cX7_togetherWith 86 = .ok (.iload_n 2, 1) := by decide +kernel
theorem dX7_togetherWith_87 : decode cX7_togetherWith 87 = .ok (.ireturn, 1) := by decide +kernel
theorem dX7_togetherWith_62 : decode cX7_togetherWith 62 = .ok (.iload_n 3, 1) := by decide +kernel
theorem dX7_togetherWith_63 : decode cX7_togetherWith 63 = .ok (.iconst (-1), 1) := by decide +kernel
theorem dX7_togetherWith_64 : decode cX7_togetherWith 64 = .ok (.if_icmp .eq 22, 3) := by decide +kernel
theorem dX7_togetherWith_67 : decode cX7_togetherWith 67 = .ok (.iload_n 2, 1) := by decide +kernel
theorem dX7_togetherWith_68 : decode cX7_togetherWith 68 = .ok (.iconst 1, 1) := by decide +kernel
theorem dX7_togetherWith_69 : decode cX7_togetherWith 69 = .ok (.iload_n 3, 1) := by decide +kernel
theorem dX7_togetherWith_70 : decode cX7_togetherWith 70 = .ok (.ishl, 1) := by decide +kernel
theorem dX7_togetherWith_71 : decode cX7_togetherWith 71 = .ok (.ior, 1) := by decide +kernel
theorem dX7_togetherWith_72 : decode cX7_togetherWith 72 = .ok (.istore_n 2, 1) := by decide +kernel
theorem dX7_togetherWith_73 : decode cX7_togetherWith 73 = .ok (.aload_n 0, 1) := by decide +kernel
theorem dX7_togetherWith_74 : decode cX7_togetherWith 74 = .ok (.getfield 18, 3) := by decide +kernel
theorem dX7_togetherWith_77 : decode cX7_togetherWith 77 = .ok (.iload_n 3, 1) := by decide +kernel
theorem dX7_togetherWith_78 : decode cX7_togetherWith 78 = .ok (.iaload, 1) := by decide +kernel
theorem dX7_togetherWith_79 : decode cX7_togetherWith 79 = .ok (.istore_n 3, 1) := by decide +kernel
theorem dX7_togetherWith_80 : decode cX7_togetherWith 80 = .ok (.iinc 4 1, 3) := by decide +kernel
theorem dX7_togetherWith_83 : decode cX7_togetherWith 83 = .ok (.goto (-28), 3) := by decide +kernel
theorem dX7_togetherWith_21 : decode cX7_togetherWith 21 = .ok (.iload_n 3, 1) := by decide +kernel
theorem dX7_togetherWith_22 : decode cX7_togetherWith 22 = .ok (.iconst (-1), 1) := by decide +kernel
theorem dX7_togetherWith_23 : decode cX7_togetherWith 23 = .ok (.if_icmp .eq 22, 3) := by decide +kernel
theorem dX7_togetherWith_26 : decode cX7_togetherWith 26 = .ok (.iload_n 2, 1) := by decide +kernel
theorem dX7_togetherWith_27 : decode cX7_togetherWith 27 = .ok (.iconst 1, 1) := by decide +kernel
theorem dX7_togetherWith_28 : decode cX7_togetherWith 28 = .ok (.iload_n 3, 1) := by decide +kernel
theorem dX7_togetherWith_29 : decode cX7_togetherWith 29 = .ok (.ishl, 1) := by decide +kernel
theorem dX7_togetherWith_30 : decode cX7_togetherWith 30 = .ok (.ior, 1) := by decide +kernel
theorem dX7_togetherWith_31 : decode cX7_togetherWith 31 = .ok (.istore_n 2, 1) := by decide +kernel
theorem dX7_togetherWith_32 : decode cX7_togetherWith 32 = .ok (.aload_n 0, 1) := by decide +kernel
theorem dX7_togetherWith_33 : decode cX7_togetherWith 33 = .ok (.getfield 15, 3) := by decide +kernel
theorem dX7_togetherWith_36 : decode cX7_togetherWith 36 = .ok (.iload_n 3, 1) := by decide +kernel
theorem dX7_togetherWith_37 : decode cX7_togetherWith 37 = .ok (.iaload, 1) := by decide +kernel
theorem dX7_togetherWith_38 : decode cX7_togetherWith 38 = .ok (.istore_n 3, 1) := by decide +kernel
theorem dX7_togetherWith_39 : decode cX7_togetherWith 39 = .ok (.iinc 4 1, 3) := by decide +kernel
theorem dX7_togetherWith_42 : decode cX7_togetherWith 42 = .ok (.goto (-28), 3) := by decide +kernel
theorem dX7_partsOf_0 : decode cX7_partsOf 0 = .ok (.iconst 0, 1) := by decide +kernel
theorem dX7_partsOf_1 : decode cX7_partsOf 1 = .ok (.istore_n 2, 1) := by decide +kernel
theorem dX7_partsOf_2 : decode cX7_partsOf 2 = .ok (.iconst 0, 1) := by decide +kernel
theorem dX7_partsOf_3 : decode cX7_partsOf 3 = .ok (.istore_n 3, 1) := by decide +kernel
theorem dX7_partsOf_4 : decode cX7_partsOf 4 = .ok (.iload_n 3, 1) := by decide +kernel
theorem dX7_partsOf_5 : decode cX7_partsOf 5 = .ok (.aload_n 1, 1) := by decide +kernel
theorem dX7_partsOf_6 : decode cX7_partsOf 6 = .ok (.getfield 85, 3) := by decide +kernel
theorem dX7_partsOf_9 : decode cX7_partsOf 9 = .ok (.if_icmp .ge 30, 3) := by decide +kernel
theorem dX7_partsOf_39 : decode cX7_partsOf 39 = .ok (.iload_n 2, 1) := by decide +kernel
theorem dX7_partsOf_40 : decode cX7_partsOf 40 = .ok (.ireturn, 1) := by decide +kernel
theorem dX7_partsOf_12 : decode cX7_partsOf 12 = .ok (.iconst 1, 1) := by decide +kernel
theorem dX7_partsOf_13 : decode cX7_partsOf 13 = .ok (.iload_n 3, 1) := by decide +kernel
theorem dX7_partsOf_14 : decode cX7_partsOf 14 = .ok (.ishl, 1) := by decide +kernel
theorem dX7_partsOf_15 : decode cX7_partsOf 15 = .ok (.iconst 1, 1) := by decide +kernel
theorem dX7_partsOf_16 : decode cX7_partsOf 16 = .ok (.isub, 1) := by decide +kernel
theorem dX7_partsOf_17 : decode cX7_partsOf 17 = .ok (.istore 4, 2) := by decide +kernel
theorem dX7_partsOf_19 : decode cX7_partsOf 19 = .ok (.aload_n 0, 1) := by decide +kernel
theorem dX7_partsOf_20 : decode cX7_partsOf 20 = .ok (.iload_n 3, 1) := by decide +kernel
theorem dX7_partsOf_21 : decode cX7_partsOf 21 = .ok (.invokevirtual 121, 3) := by decide +kernel
theorem G928 : Cond.code ⟨"HookedCity$State", "togetherWith", "(I)I"⟩ prog_9_method_21_code 5 (some .int) ∈ GW := gw_i 928 (by decide +kernel) rfl
theorem G937 : Cond.methodLink "HookedCity$State" 121 ⟨"HookedCity$State", "togetherWith", "(I)I"⟩ ∈ GW := gw_i 937 (by decide +kernel) rfl
theorem V_HookedCity_State_121 : VL "HookedCity$State" 121 yX7_togetherWith cX7_togetherWith 5 (some .int) 1 := ⟨G928, G937, G121, by decide +kernel, by decide +kernel, by decide +kernel⟩
theorem G926 : Cond.instanceMethod ⟨"HookedCity$State", "togetherWith", "(I)I"⟩ ∈ GW := gw_i 926 (by decide +kernel) rfl
theorem G927 : Cond.selects "HookedCity$State" ⟨"HookedCity$State", "togetherWith", "(I)I"⟩ ⟨"HookedCity$State", "togetherWith", "(I)I"⟩ ∈ GW := gw_i 927 (by decide +kernel) rfl
theorem dX7_partsOf_24 : decode cX7_partsOf 24 = .ok (.iload 4, 2) := by decide +kernel
theorem dX7_partsOf_26 : decode cX7_partsOf 26 = .ok (.iand, 1) := by decide +kernel
theorem dX7_partsOf_27 : decode cX7_partsOf 27 = .ok (.ifCond .ne 6, 3) := by decide +kernel
theorem dX7_partsOf_33 : decode cX7_partsOf 33 = .ok (.iinc 3 1, 3) := by decide +kernel
theorem dX7_partsOf_36 : decode cX7_partsOf 36 = .ok (.goto (-32), 3) := by decide +kernel
theorem dX7_partsOf_30 : decode cX7_partsOf 30 = .ok (.iinc 2 1, 3) := by decide +kernel
theorem dX7_ringOnes_0 : decode cX7_ringOnes 0 = .ok (.iconst 0, 1) := by decide +kernel
theorem dX7_ringOnes_1 : decode cX7_ringOnes 1 = .ok (.istore_n 2, 1) := by decide +kernel
theorem dX7_ringOnes_2 : decode cX7_ringOnes 2 = .ok (.iconst 0, 1) := by decide +kernel
theorem dX7_ringOnes_3 : decode cX7_ringOnes 3 = .ok (.istore_n 3, 1) := by decide +kernel
theorem dX7_ringOnes_4 : decode cX7_ringOnes 4 = .ok (.iload_n 3, 1) := by decide +kernel
theorem dX7_ringOnes_5 : decode cX7_ringOnes 5 = .ok (.aload_n 1, 1) := by decide +kernel
theorem dX7_ringOnes_6 : decode cX7_ringOnes 6 = .ok (.getfield 85, 3) := by decide +kernel
theorem dX7_ringOnes_9 : decode cX7_ringOnes 9 = .ok (.if_icmp .ge 27, 3) := by decide +kernel
theorem dX7_ringOnes_36 : decode cX7_ringOnes 36 = .ok (.iload_n 2, 1) := by decide +kernel
theorem dX7_ringOnes_37 : decode cX7_ringOnes 37 = .ok (.ireturn, 1) := by decide +kernel
theorem dX7_ringOnes_12 : decode cX7_ringOnes 12 = .ok (.iload_n 2, 1) := by decide +kernel
theorem dX7_ringOnes_13 : decode cX7_ringOnes 13 = .ok (.aload_n 0, 1) := by decide +kernel
theorem dX7_ringOnes_14 : decode cX7_ringOnes 14 = .ok (.iload_n 3, 1) := by decide +kernel
theorem dX7_ringOnes_15 : decode cX7_ringOnes 15 = .ok (.invokevirtual 124, 3) := by decide +kernel
theorem G949 : Cond.code ⟨"HookedCity$State", "onRing", "(I)Z"⟩ prog_9_method_20_code 4 (some .boolean) ∈ GW := gw_i 949 (by decide +kernel) rfl
theorem G946 : Cond.methodLink "HookedCity$State" 124 ⟨"HookedCity$State", "onRing", "(I)Z"⟩ ∈ GW := gw_i 946 (by decide +kernel) rfl
theorem V_HookedCity_State_124 : VL "HookedCity$State" 124 yX7_onRing cX7_onRing 4 (some .boolean) 1 := ⟨G949, G946, G121, by decide +kernel, by decide +kernel, by decide +kernel⟩
theorem G947 : Cond.instanceMethod ⟨"HookedCity$State", "onRing", "(I)Z"⟩ ∈ GW := gw_i 947 (by decide +kernel) rfl
theorem G948 : Cond.selects "HookedCity$State" ⟨"HookedCity$State", "onRing", "(I)Z"⟩ ⟨"HookedCity$State", "onRing", "(I)Z"⟩ ∈ GW := gw_i 948 (by decide +kernel) rfl
theorem dX7_ringOnes_18 : decode cX7_ringOnes 18 = .ok (.ifCond .eq 9, 3) := by decide +kernel
theorem dX7_ringOnes_27 : decode cX7_ringOnes 27 = .ok (.iconst 0, 1) := by decide +kernel
theorem dX7_ringOnes_28 : decode cX7_ringOnes 28 = .ok (.ior, 1) := by decide +kernel
theorem dX7_ringOnes_29 : decode cX7_ringOnes 29 = .ok (.istore_n 2, 1) := by decide +kernel
theorem dX7_ringOnes_30 : decode cX7_ringOnes 30 = .ok (.iinc 3 1, 3) := by decide +kernel
theorem dX7_ringOnes_33 : decode cX7_ringOnes 33 = .ok (.goto (-29), 3) := by decide +kernel
theorem dX7_ringOnes_21 : decode cX7_ringOnes 21 = .ok (.iconst 1, 1) := by decide +kernel
theorem dX7_ringOnes_22 : decode cX7_ringOnes 22 = .ok (.iload_n 3, 1) := by decide +kernel
theorem dX7_ringOnes_23 : decode cX7_ringOnes 23 = .ok (.ishl, 1) := by decide +kernel
theorem dX7_ringOnes_24 : decode cX7_ringOnes 24 = .ok (.goto 4, 3) := by decide +kernel
theorem dX7_openOnes_0 : decode cX7_openOnes 0 = .ok (.iconst 0, 1) := by decide +kernel
theorem dX7_openOnes_1 : decode cX7_openOnes 1 = .ok (.istore_n 2, 1) := by decide +kernel
theorem dX7_openOnes_2 : decode cX7_openOnes 2 = .ok (.iconst 0, 1) := by decide +kernel
theorem dX7_openOnes_3 : decode cX7_openOnes 3 = .ok (.istore_n 3, 1) := by decide +kernel
theorem dX7_openOnes_4 : decode cX7_openOnes 4 = .ok (.iload_n 3, 1) := by decide +kernel
theorem dX7_openOnes_5 : decode cX7_openOnes 5 = .ok (.aload_n 1, 1) := by decide +kernel
theorem dX7_openOnes_6 : decode cX7_openOnes 6 = .ok (.getfield 85, 3) := by decide +kernel
theorem dX7_openOnes_9 : decode cX7_openOnes 9 = .ok (.if_icmp .ge 29, 3) := by decide +kernel
theorem dX7_openOnes_38 : decode cX7_openOnes 38 = .ok (.iload_n 2, 1) := by decide +kernel
theorem dX7_openOnes_39 : decode cX7_openOnes 39 = .ok (.ireturn, 1) := by decide +kernel
theorem dX7_openOnes_12 : decode cX7_openOnes 12 = .ok (.iload_n 2, 1) := by decide +kernel
theorem dX7_openOnes_13 : decode cX7_openOnes 13 = .ok (.aload_n 0, 1) := by decide +kernel
theorem dX7_openOnes_14 : decode cX7_openOnes 14 = .ok (.getfield 15, 3) := by decide +kernel
theorem dX7_openOnes_17 : decode cX7_openOnes 17 = .ok (.iload_n 3, 1) := by decide +kernel
theorem dX7_openOnes_18 : decode cX7_openOnes 18 = .ok (.iaload, 1) := by decide +kernel
theorem dX7_openOnes_19 : decode cX7_openOnes 19 = .ok (.iconst (-1), 1) := by decide +kernel
theorem dX7_openOnes_20 : decode cX7_openOnes 20 = .ok (.if_icmp .ne 9, 3) := by decide +kernel
theorem dX7_openOnes_29 : decode cX7_openOnes 29 = .ok (.iconst 0, 1) := by decide +kernel
theorem dX7_openOnes_30 : decode cX7_openOnes 30 = .ok (.ior, 1) := by decide +kernel
theorem dX7_openOnes_31 : decode cX7_openOnes 31 = .ok (.istore_n 2, 1) := by decide +kernel
theorem dX7_openOnes_32 : decode cX7_openOnes 32 = .ok (.iinc 3 1, 3) := by decide +kernel
theorem dX7_openOnes_35 : decode cX7_openOnes 35 = .ok (.goto (-31), 3) := by decide +kernel
theorem dX7_openOnes_23 : decode cX7_openOnes 23 = .ok (.iconst 1, 1) := by decide +kernel
theorem dX7_openOnes_24 : decode cX7_openOnes 24 = .ok (.iload_n 3, 1) := by decide +kernel
theorem dX7_openOnes_25 : decode cX7_openOnes 25 = .ok (.ishl, 1) := by decide +kernel
theorem dX7_openOnes_26 : decode cX7_openOnes 26 = .ok (.goto 4, 3) := by decide +kernel
theorem dX7_bareOnes_0 : decode cX7_bareOnes 0 = .ok (.iconst 0, 1) := by decide +kernel
theorem dX7_bareOnes_1 : decode cX7_bareOnes 1 = .ok (.istore_n 2, 1) := by decide +kernel
theorem dX7_bareOnes_2 : decode cX7_bareOnes 2 = .ok (.iconst 0, 1) := by decide +kernel
theorem dX7_bareOnes_3 : decode cX7_bareOnes 3 = .ok (.istore_n 3, 1) := by decide +kernel
theorem dX7_bareOnes_4 : decode cX7_bareOnes 4 = .ok (.iload_n 3, 1) := by decide +kernel
theorem dX7_bareOnes_5 : decode cX7_bareOnes 5 = .ok (.aload_n 1, 1) := by decide +kernel
theorem dX7_bareOnes_6 : decode cX7_bareOnes 6 = .ok (.getfield 85, 3) := by decide +kernel
theorem dX7_bareOnes_9 : decode cX7_bareOnes 9 = .ok (.if_icmp .ge 29, 3) := by decide +kernel
theorem dX7_bareOnes_38 : decode cX7_bareOnes 38 = .ok (.iload_n 2, 1) := by decide +kernel
theorem dX7_bareOnes_39 : decode cX7_bareOnes 39 = .ok (.ireturn, 1) := by decide +kernel
theorem dX7_bareOnes_12 : decode cX7_bareOnes 12 = .ok (.iload_n 2, 1) := by decide +kernel
theorem dX7_bareOnes_13 : decode cX7_bareOnes 13 = .ok (.aload_n 0, 1) := by decide +kernel
theorem dX7_bareOnes_14 : decode cX7_bareOnes 14 = .ok (.getfield 18, 3) := by decide +kernel
theorem dX7_bareOnes_17 : decode cX7_bareOnes 17 = .ok (.iload_n 3, 1) := by decide +kernel
theorem dX7_bareOnes_18 : decode cX7_bareOnes 18 = .ok (.iaload, 1) := by decide +kernel
theorem dX7_bareOnes_19 : decode cX7_bareOnes 19 = .ok (.iconst (-1), 1) := by decide +kernel
theorem dX7_bareOnes_20 : decode cX7_bareOnes 20 = .ok (.if_icmp .ne 9, 3) := by decide +kernel
theorem dX7_bareOnes_29 : decode cX7_bareOnes 29 = .ok (.iconst 0, 1) := by decide +kernel
theorem dX7_bareOnes_30 : decode cX7_bareOnes 30 = .ok (.ior, 1) := by decide +kernel
theorem dX7_bareOnes_31 : decode cX7_bareOnes 31 = .ok (.istore_n 2, 1) := by decide +kernel
theorem dX7_bareOnes_32 : decode cX7_bareOnes 32 = .ok (.iinc 3 1, 3) := by decide +kernel
theorem dX7_bareOnes_35 : decode cX7_bareOnes 35 = .ok (.goto (-31), 3) := by decide +kernel
theorem dX7_bareOnes_23 : decode cX7_bareOnes 23 = .ok (.iconst 1, 1) := by decide +kernel
theorem dX7_bareOnes_24 : decode cX7_bareOnes 24 = .ok (.iload_n 3, 1) := by decide +kernel
theorem dX7_bareOnes_25 : decode cX7_bareOnes 25 = .ok (.ishl, 1) := by decide +kernel
theorem dX7_bareOnes_26 : decode cX7_bareOnes 26 = .ok (.goto 4, 3) := by decide +kernel
theorem dX7_tornOnes_0 : decode cX7_tornOnes 0 = .ok (.iconst 0, 1) := by decide +kernel
theorem dX7_tornOnes_1 : decode cX7_tornOnes 1 = .ok (.istore_n 2, 1) := by decide +kernel
theorem dX7_tornOnes_2 : decode cX7_tornOnes 2 = .ok (.iconst 0, 1) := by decide +kernel
theorem dX7_tornOnes_3 : decode cX7_tornOnes 3 = .ok (.istore_n 3, 1) := by decide +kernel
theorem dX7_tornOnes_4 : decode cX7_tornOnes 4 = .ok (.iload_n 3, 1) := by decide +kernel
theorem dX7_tornOnes_5 : decode cX7_tornOnes 5 = .ok (.aload_n 1, 1) := by decide +kernel
theorem dX7_tornOnes_6 : decode cX7_tornOnes 6 = .ok (.getfield 85, 3) := by decide +kernel
theorem dX7_tornOnes_9 : decode cX7_tornOnes 9 = .ok (.if_icmp .ge 28, 3) := by decide +kernel
theorem dX7_tornOnes_37 : decode cX7_tornOnes 37 = .ok (.iload_n 2, 1) := by decide +kernel
theorem dX7_tornOnes_38 : decode cX7_tornOnes 38 = .ok (.ireturn, 1) := by decide +kernel
theorem dX7_tornOnes_12 : decode cX7_tornOnes 12 = .ok (.iload_n 2, 1) := by decide +kernel
theorem dX7_tornOnes_13 : decode cX7_tornOnes 13 = .ok (.aload_n 0, 1) := by decide +kernel
theorem dX7_tornOnes_14 : decode cX7_tornOnes 14 = .ok (.getfield 9, 3) := by decide +kernel
theorem dX7_tornOnes_17 : decode cX7_tornOnes 17 = .ok (.iload_n 3, 1) := by decide +kernel
theorem dX7_tornOnes_18 : decode cX7_tornOnes 18 = .ok (.iaload, 1) := by decide +kernel
theorem dX7_tornOnes_19 : decode cX7_tornOnes 19 = .ok (.ifCond .ne 9, 3) := by decide +kernel
theorem dX7_tornOnes_28 : decode cX7_tornOnes 28 = .ok (.iconst 0, 1) := by decide +kernel
theorem dX7_tornOnes_29 : decode cX7_tornOnes 29 = .ok (.ior, 1) := by decide +kernel
theorem dX7_tornOnes_30 : decode cX7_tornOnes 30 = .ok (.istore_n 2, 1) := by decide +kernel
theorem dX7_tornOnes_31 : decode cX7_tornOnes 31 = .ok (.iinc 3 1, 3) := by decide +kernel
theorem dX7_tornOnes_34 : decode cX7_tornOnes 34 = .ok (.goto (-30), 3) := by decide +kernel
theorem dX7_tornOnes_22 : decode cX7_tornOnes 22 = .ok (.iconst 1, 1) := by decide +kernel
theorem dX7_tornOnes_23 : decode cX7_tornOnes 23 = .ok (.iload_n 3, 1) := by decide +kernel
theorem dX7_tornOnes_24 : decode cX7_tornOnes 24 = .ok (.ishl, 1) := by decide +kernel
theorem dX7_tornOnes_25 : decode cX7_tornOnes 25 = .ok (.goto 4, 3) := by decide +kernel
theorem dX7_roomFor_0 : decode cX7_roomFor 0 = .ok (.iconst 0, 1) := by decide +kernel
theorem dX7_roomFor_1 : decode cX7_roomFor 1 = .ok (.istore_n 3, 1) := by decide +kernel
theorem dX7_roomFor_2 : decode cX7_roomFor 2 = .ok (.iconst 0, 1) := by decide +kernel
theorem dX7_roomFor_3 : decode cX7_roomFor 3 = .ok (.istore 4, 2) := by decide +kernel
theorem dX7_roomFor_5 : decode cX7_roomFor 5 = .ok (.iload 4, 2) := by decide +kernel
theorem dX7_roomFor_7 : decode cX7_roomFor 7 = .ok (.aload_n 1, 1) := by decide +kernel
theorem dX7_roomFor_8 : decode cX7_roomFor 8 = .ok (.getfield 85, 3) := by decide +kernel
theorem dX7_roomFor_11 : decode cX7_roomFor 11 = .ok (.if_icmp .ge 31, 3) := by decide +kernel
theorem dX7_roomFor_42 : decode cX7_roomFor 42 = .ok (.iload_n 3, 1) := by decide +kernel
theorem dX7_roomFor_43 : decode cX7_roomFor 43 = .ok (.ireturn, 1) := by decide +kernel
theorem dX7_roomFor_14 : decode cX7_roomFor 14 = .ok (.iload_n 3, 1) := by decide +kernel
theorem dX7_roomFor_15 : decode cX7_roomFor 15 = .ok (.aload_n 0, 1) := by decide +kernel
theorem dX7_roomFor_16 : decode cX7_roomFor 16 = .ok (.aload_n 1, 1) := by decide +kernel
theorem dX7_roomFor_17 : decode cX7_roomFor 17 = .ok (.iload_n 2, 1) := by decide +kernel
theorem dX7_roomFor_18 : decode cX7_roomFor 18 = .ok (.iload 4, 2) := by decide +kernel
theorem dX7_roomFor_20 : decode cX7_roomFor 20 = .ok (.invokevirtual 62, 3) := by decide +kernel
theorem dX7_roomFor_23 : decode cX7_roomFor 23 = .ok (.ifCond .ne 10, 3) := by decide +kernel
theorem dX7_roomFor_33 : decode cX7_roomFor 33 = .ok (.iconst 0, 1) := by decide +kernel
theorem dX7_roomFor_34 : decode cX7_roomFor 34 = .ok (.ior, 1) := by decide +kernel
theorem dX7_roomFor_35 : decode cX7_roomFor 35 = .ok (.istore_n 3, 1) := by decide +kernel
theorem dX7_roomFor_36 : decode cX7_roomFor 36 = .ok (.iinc 4 1, 3) := by decide +kernel
theorem dX7_roomFor_39 : decode cX7_roomFor 39 = .ok (.goto (-34), 3) := by decide +kernel
theorem dX7_roomFor_26 : decode cX7_roomFor 26 = .ok (.iconst 1, 1) := by decide +kernel
theorem dX7_roomFor_27 : decode cX7_roomFor 27 = .ok (.iload 4, 2) := by decide +kernel
theorem dX7_roomFor_29 : decode cX7_roomFor 29 = .ok (.ishl, 1) := by decide +kernel
theorem dX7_roomFor_30 : decode cX7_roomFor 30 = .ok (.goto 4, 3) := by decide +kernel
theorem dX7_daysLeft_0 : decode cX7_daysLeft 0 = .ok (.aload_n 0, 1) := by decide +kernel
theorem dX7_daysLeft_1 : decode cX7_daysLeft 1 = .ok (.getfield 18, 3) := by decide +kernel
theorem dX7_daysLeft_4 : decode cX7_daysLeft 4 = .ok (.iload_n 2, 1) := by decide +kernel
theorem dX7_daysLeft_5 : decode cX7_daysLeft 5 = .ok (.iaload, 1) := by decide +kernel
theorem dX7_daysLeft_6 : decode cX7_daysLeft 6 = .ok (.iconst (-1), 1) := by decide +kernel
theorem dX7_daysLeft_7 : decode cX7_daysLeft 7 = .ok (.if_icmp .ne 5, 3) := by decide +kernel
theorem dX7_daysLeft_12 : decode cX7_daysLeft 12 = .ok (.aload_n 0, 1) := by decide +kernel
theorem dX7_daysLeft_13 : decode cX7_daysLeft 13 = .ok (.getfield 9, 3) := by decide +kernel
theorem dX7_daysLeft_16 : decode cX7_daysLeft 16 = .ok (.iload_n 2, 1) := by decide +kernel
theorem dX7_daysLeft_17 : decode cX7_daysLeft 17 = .ok (.iaload, 1) := by decide +kernel
theorem dX7_daysLeft_18 : decode cX7_daysLeft 18 = .ok (.istore_n 3, 1) := by decide +kernel
theorem dX7_daysLeft_19 : decode cX7_daysLeft 19 = .ok (.aload_n 0, 1) := by decide +kernel
theorem dX7_daysLeft_20 : decode cX7_daysLeft 20 = .ok (.getfield 24, 3) := by decide +kernel
theorem dX7_daysLeft_23 : decode cX7_daysLeft 23 = .ok (.istore 4, 2) := by decide +kernel
theorem dX7_daysLeft_25 : decode cX7_daysLeft 25 = .ok (.iload 4, 2) := by decide +kernel
theorem dX7_daysLeft_27 : decode cX7_daysLeft 27 = .ok (.sipush 400, 3) := by decide +kernel
theorem dX7_daysLeft_30 : decode cX7_daysLeft 30 = .ok (.if_icmp .ge 40, 3) := by decide +kernel
theorem dX7_daysLeft_70 : decode cX7_daysLeft 70 = .ok (.iconst (-1), 1) := by decide +kernel
theorem dX7_daysLeft_71 : decode cX7_daysLeft 71 = .ok (.ireturn, 1) := by decide +kernel
theorem dX7_daysLeft_33 : decode cX7_daysLeft 33 = .ok (.iload_n 3, 1) := by decide +kernel
theorem dX7_daysLeft_34 : decode cX7_daysLeft 34 = .ok (.aload_n 1, 1) := by decide +kernel
theorem dX7_daysLeft_35 : decode cX7_daysLeft 35 = .ok (.iload 4, 2) := by decide +kernel
theorem dX7_daysLeft_37 : decode cX7_daysLeft 37 = .ok (.invokevirtual 81, 3) := by decide +kernel
theorem dX7_daysLeft_40 : decode cX7_daysLeft 40 = .ok (.ifCond .eq 7, 3) := by decide +kernel
theorem dX7_daysLeft_47 : decode cX7_daysLeft 47 = .ok (.iconst 0, 1) := by decide +kernel
theorem dX7_daysLeft_48 : decode cX7_daysLeft 48 = .ok (.isub, 1) := by decide +kernel
theorem dX7_daysLeft_49 : decode cX7_daysLeft 49 = .ok (.istore_n 3, 1) := by decide +kernel
theorem dX7_daysLeft_50 : decode cX7_daysLeft 50 = .ok (.iload_n 3, 1) := by decide +kernel
theorem dX7_daysLeft_51 : decode cX7_daysLeft 51 = .ok (.ifCond .ne 13, 3) := by decide +kernel
theorem dX7_daysLeft_64 : decode cX7_daysLeft 64 = .ok (.iinc 4 1, 3) := by decide +kernel
theorem dX7_daysLeft_67 : decode cX7_daysLeft 67 = .ok (.goto (-42), 3) := by decide +kernel
theorem dX7_daysLeft_54 : decode cX7_daysLeft 54 = .ok (.iload 4, 2) := by decide +kernel
theorem dX7_daysLeft_56 : decode cX7_daysLeft 56 = .ok (.aload_n 0, 1) := by decide +kernel
theorem dX7_daysLeft_57 : decode cX7_daysLeft 57 = .ok (.getfield 24, 3) := by decide +kernel
theorem dX7_daysLeft_60 : decode cX7_daysLeft 60 = .ok (.isub, 1) := by decide +kernel
theorem dX7_daysLeft_61 : decode cX7_daysLeft 61 = .ok (.iconst 1, 1) := by decide +kernel
theorem dX7_daysLeft_62 : decode cX7_daysLeft 62 = .ok (.iadd, 1) := by decide +kernel
theorem dX7_daysLeft_63 : decode cX7_daysLeft 63 = .ok (.ireturn, 1) := by decide +kernel
theorem dX7_daysLeft_43 : decode cX7_daysLeft 43 = .ok (.iconst 1, 1) := by decide +kernel
theorem dX7_daysLeft_44 : decode cX7_daysLeft 44 = .ok (.goto 4, 3) := by decide +kernel
theorem dX7_daysLeft_10 : decode cX7_daysLeft 10 = .ok (.iconst (-1), 1) := by decide +kernel
theorem dX7_daysLeft_11 : decode cX7_daysLeft 11 = .ok (.ireturn, 1) := by decide +kernel
set_option maxRecDepth 100000 in
set_option maxHeartbeats 4000000 in
theorem c218_J7_fill_53178 (l : Launch) (D : va_G) (T : Nat → ClassId) (sz : Nat) (a0 : Nat) (x0 : Int) (f0 : Nat → Int32) (x0_a : (-2147483648) ≤ x0) (x0_b : x0 ≤ 2147483647) : Met l yJ7_fill_53178 (Cond.code yJ7_fill_53178 cJ7_fill_53178 4 none :: GW) (Rm 0 0 0) (cPre [.ref a0, .int (iI x0)] D T [(a0, .inl (T 0, 3, .inl f0))] sz) (qV D [(a0, .inl (T 0, 3, .inl f0))] sz (fun (u : (Nat → Int32)) => True) (fun u => [(a0, .inl (T 0, 3, .inl u))])) 0 0 (va_A [(a0, .inl (T 0, 3, .inl f0))] sz) := by
  refine e_V (by decide) (Nat.le_of_ble_eq_true rfl) ?_
  intro p e s m args below meth c A Q ls M hin w ret hl
  have hx := M.1.1
  have hb := M.1.2.1
  have hl : lv_has ls 4 [(0, .ref a0), (1, .int (iI x0))] := hl
  refine lv_iconst (v := iI 0) hx hb dJ7_fill_53178_0 (by decide +kernel) ?_
  refine lv_istore_n (lv' := [(2, .int (iI 0)), (0, .ref a0), (1, .int (iI x0))]) hx hb dJ7_fill_53178_1 rfl hl (by decide) rfl (fun ls hl => ?_)
  refine lv_aload_n hx hb dJ7_fill_53178_2 rfl (lv_at hl 1 rfl) ?_
  refine r_alen (v := iI 3) M w 0 0 rfl rfl (show Int32.ofNat 3 = iI 3 from by decide +kernel) dJ7_fill_53178_3 ?_
  refine lv_istore_n (lv' := [(3, .int (iI 3)), (2, .int (iI 0)), (0, .ref a0), (1, .int (iI x0))]) hx hb dJ7_fill_53178_4 rfl hl (by decide) rfl (fun ls hl => ?_)
  have loop1 : ∀ (k1 : Nat) (ff1 : Nat → Int32) (z2 : Int) (H : Heap) (locs : List Loc) (ls : Array Slot), 0 ≤ z2 → z2 ≤ 2147483647 → ((3 - z2) : Int).toNat < k1 → WD D A s.heap [(a0, .inl (T 0, 3, .inl ff1))] H locs → lv_has ls 4 [(3, .int (iI 3)), (2, .int (iI z2)), (0, .ref a0), (1, .int (iI x0))] → W p l e (Rm 0 0 0) s m args below meth c H locs 0 0 Q (F0 m 5 ls []) := by
    intro k1
    induction k1 with
    | zero => intro ff1 z2 H locs ls z2_a z2_b hm; exact absurd hm (Nat.not_lt_zero _)
    | succ k1 ih1 =>
      intro ff1 z2 H locs ls z2_a z2_b hm1 w hl
      refine lv_iload_n hx hb dJ7_fill_53178_5 rfl (lv_at hl 1 rfl) ?_
      refine lv_iload_n hx hb dJ7_fill_53178_6 rfl (lv_at hl 0 rfl) ?_
      refine lv_icmp_ge (tgt := 20) hx hb dJ7_fill_53178_7 (by decide) (fun c_3 => ?_) (fun c_3 => ?_)
      · replace c_3 := (iI_le (by decide) (by decide) (Int.le_trans (by decide) z2_a) (Int.le_trans z2_b (by decide))).mp c_3
        exact ret ff1 _ _ _ _ _ [0] dJ7_fill_53178_20 trivial w (by decide) rfl
      · replace c_3 : z2 < 3 := Int.not_le.mp (fun h => c_3 ((iI_le (by decide) (by decide) (Int.le_trans (by decide) z2_a) (Int.le_trans z2_b (by decide))).mpr h))
        refine lv_aload_n hx hb dJ7_fill_53178_10 rfl (lv_at hl 2 rfl) ?_
        refine lv_iload_n hx hb dJ7_fill_53178_11 rfl (lv_at hl 1 rfl) ?_
        refine lv_iload_n hx hb dJ7_fill_53178_12 rfl (lv_at hl 3 rfl) ?_
        refine r_iast (ws' := [(a0, .inl (T 0, 3, .inl (upd ff1 (Int32.toNatClampNeg (iI z2)) (iI x0))))]) M w 0 rfl (iI_in (by omega) (by omega) (by decide)) rfl dJ7_fill_53178_13 (fun H locs w => ?_)
        refine lv_iinc (v := iI (z2 + 1)) (lv' := [(2, .int (iI (z2 + 1))), (3, .int (iI 3)), (0, .ref a0), (1, .int (iI x0))]) hx hb dJ7_fill_53178_14 hl (k := 1) rfl (ii_inc (by decide +kernel)) (by decide) rfl (fun ls hl => ?_)
        refine lv_goto (tgt := 5) hx hb dJ7_fill_53178_17 (by decide) ?_
        exact ih1 (upd ff1 (Int32.toNatClampNeg (iI z2)) (iI x0)) (z2 + 1) _ _ _ (by omega) (by omega) (by omega) w (lv_sub hl [1, 0, 2, 3] rfl)
  exact loop1 ((3 : Int).toNat + 1) f0 0 _ _ _ (by decide) (by decide) (Nat.lt_succ_self _) w (lv_sub hl [0, 1, 2, 3] rfl)
set_option maxRecDepth 100000 in
set_option maxHeartbeats 4000000 in
theorem c219_X7_begin (l : Launch) (D : va_G) (T : Nat → ClassId) (sz : Nat) (a0 : Nat) (a1 : Nat) (a2 : Nat) (a3 : Nat) (a4 : Nat) (a5 : Nat) (r0 : Int32) (r1 : Int32) (r2 : Int32) (r3 : Int32) (a6 : Nat) (a7 : Nat) (a8 : Nat) (a9 : Nat) (a10 : Nat) (a11 : Nat) (a12 : Nat) (a13 : Nat) (a14 : Nat) (x0 : Int) (x1 : Int) (x2 : Int) (x3 : Int) (x4 : Int) (x5 : Int) (x6 : Int) (x7 : Int) (x8 : Int) (f0 : Nat → Int32) (f1 : Int → Int) (f2 : Int → Int) (f3 : Nat → Int32) (f4 : Int → Int) (f5 : Int → Int) (f6 : Int → Int) (x0_a : 0 ≤ x0) (x0_b : x0 ≤ 9) (x1_a : 0 ≤ x1) (x1_b : x1 ≤ 3) (x2_a : 0 ≤ x2) (x2_b : x2 ≤ 900) (x3_a : (-2147483648) ≤ x3) (x3_b : x3 ≤ 2147483647) (x4_a : (-2147483648) ≤ x4) (x4_b : x4 ≤ 2147483647) (x5_a : (-2147483648) ≤ x5) (x5_b : x5 ≤ 2147483647) (x6_a : 0 ≤ x6) (x6_b : x6 ≤ 1) (x7_a : 0 ≤ x7) (x7_b : x7 ≤ 1) (x8_a : 0 ≤ x8) (x8_b : x8 ≤ 1) (f1_h : rng (-1) 8 f1) (f2_h : rng (-1) 8 f2) (f4_h : rng (-2147483648) 2147483647 f4) (f5_h : rng (-1) 8 f5) (f6_h : rng (-1) 8 f6) : Met l yX7_begin (Cond.code yX7_begin cX7_begin 2 none :: GW) (Rm 1 0 0) (cPre [.ref a0, .ref a1] D T [(a0, .inr (7, [.ref a2, .ref a3, .ref a4, .ref a5, .int r0, .int r1, .int r2, .int r3])), (a1, .inr (9, [.ref a6, .ref a7, .ref a8, .ref a9, .ref a10, .ref a11, .ref a12, .ref a13, .ref a14, .int (iI x0), .int (iI x1), .int (iI x2), .int (iI x3), .int (iI x4), .int (iI x5), .int (iI x6), .int (iI x7), .int (iI x8)])), (a2, .inl (T 0, 9, .inl f0)), (a3, .inl (T 0, 9, .inl (cI f1))), (a4, .inl (T 0, 9, .inl (cI f2))), (a5, .inl (T 0, 3, .inl f3)), (a9, .inl (T 0, 9, .inl (cI f4))), (a11, .inl (T 0, 9, .inl (cI f5))), (a12, .inl (T 0, 9, .inl (cI f6)))] sz) (qV D [(a0, .inr (7, [.ref a2, .ref a3, .ref a4, .ref a5, .int r0, .int r1, .int r2, .int r3])), (a1, .inr (9, [.ref a6, .ref a7, .ref a8, .ref a9, .ref a10, .ref a11, .ref a12, .ref a13, .ref a14, .int (iI x0), .int (iI x1), .int (iI x2), .int (iI x3), .int (iI x4), .int (iI x5), .int (iI x6), .int (iI x7), .int (iI x8)])), (a2, .inl (T 0, 9, .inl f0)), (a3, .inl (T 0, 9, .inl (cI f1))), (a4, .inl (T 0, 9, .inl (cI f2))), (a5, .inl (T 0, 3, .inl f3)), (a9, .inl (T 0, 9, .inl (cI f4))), (a11, .inl (T 0, 9, .inl (cI f5))), (a12, .inl (T 0, 9, .inl (cI f6)))] sz (fun (u : Int32 × Int32 × Int32 × Int32 × (Nat → Int32) × (Int → Int) × (Int → Int) × (Nat → Int32)) => rng (-1) 8 u.2.2.2.2.2.1 ∧ rng (-1) 8 u.2.2.2.2.2.2.1) (fun u => [(a0, .inr (7, [.ref a2, .ref a3, .ref a4, .ref a5, .int u.1, .int u.2.1, .int u.2.2.1, .int u.2.2.2.1])), (a1, .inr (9, [.ref a6, .ref a7, .ref a8, .ref a9, .ref a10, .ref a11, .ref a12, .ref a13, .ref a14, .int (iI x0), .int (iI x1), .int (iI x2), .int (iI x3), .int (iI x4), .int (iI x5), .int (iI x6), .int (iI x7), .int (iI x8)])), (a2, .inl (T 0, 9, .inl u.2.2.2.2.1)), (a3, .inl (T 0, 9, .inl (cI u.2.2.2.2.2.1))), (a4, .inl (T 0, 9, .inl (cI u.2.2.2.2.2.2.1))), (a5, .inl (T 0, 3, .inl u.2.2.2.2.2.2.2)), (a9, .inl (T 0, 9, .inl (cI f4))), (a11, .inl (T 0, 9, .inl (cI f5))), (a12, .inl (T 0, 9, .inl (cI f6)))])) 0 0 (va_A [(a0, .inr (7, [.ref a2, .ref a3, .ref a4, .ref a5, .int r0, .int r1, .int r2, .int r3])), (a1, .inr (9, [.ref a6, .ref a7, .ref a8, .ref a9, .ref a10, .ref a11, .ref a12, .ref a13, .ref a14, .int (iI x0), .int (iI x1), .int (iI x2), .int (iI x3), .int (iI x4), .int (iI x5), .int (iI x6), .int (iI x7), .int (iI x8)])), (a2, .inl (T 0, 9, .inl f0)), (a3, .inl (T 0, 9, .inl (cI f1))), (a4, .inl (T 0, 9, .inl (cI f2))), (a5, .inl (T 0, 3, .inl f3)), (a9, .inl (T 0, 9, .inl (cI f4))), (a11, .inl (T 0, 9, .inl (cI f5))), (a12, .inl (T 0, 9, .inl (cI f6)))] sz) := by
  refine e_V (by decide) (Nat.le_of_ble_eq_true rfl) ?_
  intro p e s m args below meth c A Q ls M hin w ret hl
  have hx := M.1.1
  have hb := M.1.2.1
  have hl : lv_has ls 2 [(0, .ref a0), (1, .ref a1)] := hl
  refine lv_aload_n hx hb dX7_begin_0 rfl (lv_at hl 1 rfl) ?_
  refine r_getN (v := .ref a9) M w 1 3 clX9 rfl (by decide) N373 rfl rfl dX7_begin_1 ?_
  refine lv_iconst (v := iI 0) hx hb dX7_begin_4 (by decide +kernel) ?_
  refine lv_aload_n hx hb dX7_begin_5 rfl (lv_at hl 0 rfl) ?_
  refine r_get (v := .ref a2) M w 0 0 clX7 rfl (by decide) G215 rfl rfl dX7_begin_6 ?_
  refine lv_iconst (v := iI 0) hx hb dX7_begin_9 (by decide +kernel) ?_
  refine lv_bipush (v := iI 9) hx hb dX7_begin_10 (by decide +kernel) ?_
  refine r_copyi (ws' := [(a0, .inr (7, [.ref a2, .ref a3, .ref a4, .ref a5, .int r0, .int r1, .int r2, .int r3])), (a1, .inr (9, [.ref a6, .ref a7, .ref a8, .ref a9, .ref a10, .ref a11, .ref a12, .ref a13, .ref a14, .int (iI x0), .int (iI x1), .int (iI x2), .int (iI x3), .int (iI x4), .int (iI x5), .int (iI x6), .int (iI x7), .int (iI x8)])), (a2, .inl (T 0, 9, .inl (va_cpy (cI f4) f0 (Int32.toNatClampNeg (iI 0)) (Int32.toNatClampNeg (iI 0)) (Int32.toNatClampNeg (iI 9))))), (a3, .inl (T 0, 9, .inl (cI f1))), (a4, .inl (T 0, 9, .inl (cI f2))), (a5, .inl (T 0, 3, .inl f3)), (a9, .inl (T 0, 9, .inl (cI f4))), (a11, .inl (T 0, 9, .inl (cI f5))), (a12, .inl (T 0, 9, .inl (cI f6)))]) M w 6 2 G794 G796 G795 G140 hl.1 rfl rfl (by decide +kernel) (by decide +kernel) (by decide +kernel) (by decide +kernel) (by decide +kernel) (by decide) (Nat.le_of_ble_eq_true rfl) rfl dX7_begin_12 (fun H locs w => ?_)
  refine lv_aload_n hx hb dX7_begin_15 rfl (lv_at hl 1 rfl) ?_
  refine r_getN (v := .ref a11) M w 1 5 clX9 rfl (by decide) N380 rfl rfl dX7_begin_16 ?_
  refine lv_iconst (v := iI 0) hx hb dX7_begin_19 (by decide +kernel) ?_
  refine lv_aload_n hx hb dX7_begin_20 rfl (lv_at hl 0 rfl) ?_
  refine r_get (v := .ref a3) M w 0 1 clX7 rfl (by decide) G220 rfl rfl dX7_begin_21 ?_
  refine lv_iconst (v := iI 0) hx hb dX7_begin_24 (by decide +kernel) ?_
  refine lv_bipush (v := iI 9) hx hb dX7_begin_25 (by decide +kernel) ?_
  refine r_copyi (ws' := [(a0, .inr (7, [.ref a2, .ref a3, .ref a4, .ref a5, .int r0, .int r1, .int r2, .int r3])), (a1, .inr (9, [.ref a6, .ref a7, .ref a8, .ref a9, .ref a10, .ref a11, .ref a12, .ref a13, .ref a14, .int (iI x0), .int (iI x1), .int (iI x2), .int (iI x3), .int (iI x4), .int (iI x5), .int (iI x6), .int (iI x7), .int (iI x8)])), (a2, .inl (T 0, 9, .inl (va_cpy (cI f4) f0 (Int32.toNatClampNeg (iI 0)) (Int32.toNatClampNeg (iI 0)) (Int32.toNatClampNeg (iI 9))))), (a3, .inl (T 0, 9, .inl (cI (cpz f5 f1 0 0 9)))), (a4, .inl (T 0, 9, .inl (cI f2))), (a5, .inl (T 0, 3, .inl f3)), (a9, .inl (T 0, 9, .inl (cI f4))), (a11, .inl (T 0, 9, .inl (cI f5))), (a12, .inl (T 0, 9, .inl (cI f6)))]) M w 7 3 G794 G796 G795 G140 hl.1 rfl rfl (by decide +kernel) (by decide +kernel) (by decide +kernel) (by decide +kernel) (by decide +kernel) (by decide) (Nat.le_of_ble_eq_true rfl) (by rw [cI_cp (by decide) (by decide) (by decide) (by decide) (by decide) (by decide)]; rfl) dX7_begin_27 (fun H locs w => ?_)
  refine lv_aload_n hx hb dX7_begin_30 rfl (lv_at hl 1 rfl) ?_
  refine r_getN (v := .ref a12) M w 1 6 clX9 rfl (by decide) N382 rfl rfl dX7_begin_31 ?_
  refine lv_iconst (v := iI 0) hx hb dX7_begin_34 (by decide +kernel) ?_
  refine lv_aload_n hx hb dX7_begin_35 rfl (lv_at hl 0 rfl) ?_
  refine r_get (v := .ref a4) M w 0 2 clX7 rfl (by decide) G224 rfl rfl dX7_begin_36 ?_
  refine lv_iconst (v := iI 0) hx hb dX7_begin_39 (by decide +kernel) ?_
  refine lv_bipush (v := iI 9) hx hb dX7_begin_40 (by decide +kernel) ?_
  refine r_copyi (ws' := [(a0, .inr (7, [.ref a2, .ref a3, .ref a4, .ref a5, .int r0, .int r1, .int r2, .int r3])), (a1, .inr (9, [.ref a6, .ref a7, .ref a8, .ref a9, .ref a10, .ref a11, .ref a12, .ref a13, .ref a14, .int (iI x0), .int (iI x1), .int (iI x2), .int (iI x3), .int (iI x4), .int (iI x5), .int (iI x6), .int (iI x7), .int (iI x8)])), (a2, .inl (T 0, 9, .inl (va_cpy (cI f4) f0 (Int32.toNatClampNeg (iI 0)) (Int32.toNatClampNeg (iI 0)) (Int32.toNatClampNeg (iI 9))))), (a3, .inl (T 0, 9, .inl (cI (cpz f5 f1 0 0 9)))), (a4, .inl (T 0, 9, .inl (cI (cpz f6 f2 0 0 9)))), (a5, .inl (T 0, 3, .inl f3)), (a9, .inl (T 0, 9, .inl (cI f4))), (a11, .inl (T 0, 9, .inl (cI f5))), (a12, .inl (T 0, 9, .inl (cI f6)))]) M w 8 4 G794 G796 G795 G140 hl.1 rfl rfl (by decide +kernel) (by decide +kernel) (by decide +kernel) (by decide +kernel) (by decide +kernel) (by decide) (Nat.le_of_ble_eq_true rfl) (by rw [cI_cp (by decide) (by decide) (by decide) (by decide) (by decide) (by decide)]; rfl) dX7_begin_42 (fun H locs w => ?_)
  refine lv_aload_n hx hb dX7_begin_45 rfl (lv_at hl 0 rfl) ?_
  refine r_get (v := .ref a5) M w 0 3 clX7 rfl (by decide) G227 rfl rfl dX7_begin_46 ?_
  refine lv_iconst (v := iI 0) hx hb dX7_begin_49 (by decide +kernel) ?_
  refine k_V (ce := 0) (sl := 0) (rest := []) (wr := [(a0, .inr (7, [.ref a2, .ref a3, .ref a4, .ref a5, .int r0, .int r1, .int r2, .int r3])), (a1, .inr (9, [.ref a6, .ref a7, .ref a8, .ref a9, .ref a10, .ref a11, .ref a12, .ref a13, .ref a14, .int (iI x0), .int (iI x1), .int (iI x2), .int (iI x3), .int (iI x4), .int (iI x5), .int (iI x6), .int (iI x7), .int (iI x8)])), (a2, .inl (T 0, 9, .inl (va_cpy (cI f4) f0 (Int32.toNatClampNeg (iI 0)) (Int32.toNatClampNeg (iI 0)) (Int32.toNatClampNeg (iI 9))))), (a3, .inl (T 0, 9, .inl (cI (cpz f5 f1 0 0 9)))), (a4, .inl (T 0, 9, .inl (cI (cpz f6 f2 0 0 9)))), (a9, .inl (T 0, 9, .inl (cI f4))), (a11, .inl (T 0, 9, .inl (cI f5))), (a12, .inl (T 0, 9, .inl (cI f6)))]) (r_S (f := 0) [5] M w V_HookedCity_State_50 G290 (c218_J7_fill_53178 l D T _ a5 0 f3 (by decide) (by decide)) rfl (by decide) rfl hl.1 rfl (Nat.le_of_ble_eq_true rfl) dX7_begin_50 (by decide) (by decide) (by decide) (by decide)) w [5] [0, 1, 2, 3, 4, 6, 7, 8] rfl rfl (by decide) (by decide) rfl rfl (fun ff1 H locs hp w => ?_)
  have w : WD D A s.heap [(a0, .inr (7, [.ref a2, .ref a3, .ref a4, .ref a5, .int r0, .int r1, .int r2, .int r3])), (a1, .inr (9, [.ref a6, .ref a7, .ref a8, .ref a9, .ref a10, .ref a11, .ref a12, .ref a13, .ref a14, .int (iI x0), .int (iI x1), .int (iI x2), .int (iI x3), .int (iI x4), .int (iI x5), .int (iI x6), .int (iI x7), .int (iI x8)])), (a2, .inl (T 0, 9, .inl (va_cpy (cI f4) f0 (Int32.toNatClampNeg (iI 0)) (Int32.toNatClampNeg (iI 0)) (Int32.toNatClampNeg (iI 9))))), (a3, .inl (T 0, 9, .inl (cI (cpz f5 f1 0 0 9)))), (a4, .inl (T 0, 9, .inl (cI (cpz f6 f2 0 0 9)))), (a9, .inl (T 0, 9, .inl (cI f4))), (a11, .inl (T 0, 9, .inl (cI f5))), (a12, .inl (T 0, 9, .inl (cI f6))), (a5, .inl (T 0, 3, .inl ff1))] H locs := w
  refine lv_aload_n hx hb dX7_begin_53 rfl (lv_at hl 0 rfl) ?_
  refine lv_iconst (v := iI 0) hx hb dX7_begin_54 (by decide +kernel) ?_
  refine r_put (ws' := [(a0, .inr (7, [.ref a2, .ref a3, .ref a4, .ref a5, .int (iI 0), .int r1, .int r2, .int r3])), (a1, .inr (9, [.ref a6, .ref a7, .ref a8, .ref a9, .ref a10, .ref a11, .ref a12, .ref a13, .ref a14, .int (iI x0), .int (iI x1), .int (iI x2), .int (iI x3), .int (iI x4), .int (iI x5), .int (iI x6), .int (iI x7), .int (iI x8)])), (a2, .inl (T 0, 9, .inl (va_cpy (cI f4) f0 (Int32.toNatClampNeg (iI 0)) (Int32.toNatClampNeg (iI 0)) (Int32.toNatClampNeg (iI 9))))), (a3, .inl (T 0, 9, .inl (cI (cpz f5 f1 0 0 9)))), (a4, .inl (T 0, 9, .inl (cI (cpz f6 f2 0 0 9)))), (a9, .inl (T 0, 9, .inl (cI f4))), (a11, .inl (T 0, 9, .inl (cI f5))), (a12, .inl (T 0, 9, .inl (cI f6))), (a5, .inl (T 0, 3, .inl ff1))]) M w 0 4 clX7 rfl (by decide) G229 rfl rfl rfl rfl (Nat.le_of_ble_eq_true rfl) rfl dX7_begin_55 (fun H locs w => ?_)
  refine lv_aload_n hx hb dX7_begin_58 rfl (lv_at hl 0 rfl) ?_
  refine lv_aload_n hx hb dX7_begin_59 rfl (lv_at hl 1 rfl) ?_
  refine r_getN (v := .int (iI x3)) M w 1 12 clX9 rfl (by decide) N399 rfl rfl dX7_begin_60 ?_
  refine r_put (ws' := [(a0, .inr (7, [.ref a2, .ref a3, .ref a4, .ref a5, .int (iI 0), .int (iI x3), .int r2, .int r3])), (a1, .inr (9, [.ref a6, .ref a7, .ref a8, .ref a9, .ref a10, .ref a11, .ref a12, .ref a13, .ref a14, .int (iI x0), .int (iI x1), .int (iI x2), .int (iI x3), .int (iI x4), .int (iI x5), .int (iI x6), .int (iI x7), .int (iI x8)])), (a2, .inl (T 0, 9, .inl (va_cpy (cI f4) f0 (Int32.toNatClampNeg (iI 0)) (Int32.toNatClampNeg (iI 0)) (Int32.toNatClampNeg (iI 9))))), (a3, .inl (T 0, 9, .inl (cI (cpz f5 f1 0 0 9)))), (a4, .inl (T 0, 9, .inl (cI (cpz f6 f2 0 0 9)))), (a9, .inl (T 0, 9, .inl (cI f4))), (a11, .inl (T 0, 9, .inl (cI f5))), (a12, .inl (T 0, 9, .inl (cI f6))), (a5, .inl (T 0, 3, .inl ff1))]) M w 0 5 clX7 rfl (by decide) G232 rfl rfl rfl rfl (Nat.le_of_ble_eq_true rfl) rfl dX7_begin_63 (fun H locs w => ?_)
  refine lv_aload_n hx hb dX7_begin_66 rfl (lv_at hl 0 rfl) ?_
  refine lv_iconst (v := iI 0) hx hb dX7_begin_67 (by decide +kernel) ?_
  refine r_put (ws' := [(a0, .inr (7, [.ref a2, .ref a3, .ref a4, .ref a5, .int (iI 0), .int (iI x3), .int (iI 0), .int r3])), (a1, .inr (9, [.ref a6, .ref a7, .ref a8, .ref a9, .ref a10, .ref a11, .ref a12, .ref a13, .ref a14, .int (iI x0), .int (iI x1), .int (iI x2), .int (iI x3), .int (iI x4), .int (iI x5), .int (iI x6), .int (iI x7), .int (iI x8)])), (a2, .inl (T 0, 9, .inl (va_cpy (cI f4) f0 (Int32.toNatClampNeg (iI 0)) (Int32.toNatClampNeg (iI 0)) (Int32.toNatClampNeg (iI 9))))), (a3, .inl (T 0, 9, .inl (cI (cpz f5 f1 0 0 9)))), (a4, .inl (T 0, 9, .inl (cI (cpz f6 f2 0 0 9)))), (a9, .inl (T 0, 9, .inl (cI f4))), (a11, .inl (T 0, 9, .inl (cI f5))), (a12, .inl (T 0, 9, .inl (cI f6))), (a5, .inl (T 0, 3, .inl ff1))]) M w 0 6 clX7 rfl (by decide) G234 rfl rfl rfl rfl (Nat.le_of_ble_eq_true rfl) rfl dX7_begin_68 (fun H locs w => ?_)
  refine lv_aload_n hx hb dX7_begin_71 rfl (lv_at hl 0 rfl) ?_
  refine lv_iconst (v := iI 0) hx hb dX7_begin_72 (by decide +kernel) ?_
  refine r_put (ws' := [(a0, .inr (7, [.ref a2, .ref a3, .ref a4, .ref a5, .int (iI 0), .int (iI x3), .int (iI 0), .int (iI 0)])), (a1, .inr (9, [.ref a6, .ref a7, .ref a8, .ref a9, .ref a10, .ref a11, .ref a12, .ref a13, .ref a14, .int (iI x0), .int (iI x1), .int (iI x2), .int (iI x3), .int (iI x4), .int (iI x5), .int (iI x6), .int (iI x7), .int (iI x8)])), (a2, .inl (T 0, 9, .inl (va_cpy (cI f4) f0 (Int32.toNatClampNeg (iI 0)) (Int32.toNatClampNeg (iI 0)) (Int32.toNatClampNeg (iI 9))))), (a3, .inl (T 0, 9, .inl (cI (cpz f5 f1 0 0 9)))), (a4, .inl (T 0, 9, .inl (cI (cpz f6 f2 0 0 9)))), (a9, .inl (T 0, 9, .inl (cI f4))), (a11, .inl (T 0, 9, .inl (cI f5))), (a12, .inl (T 0, 9, .inl (cI f6))), (a5, .inl (T 0, 3, .inl ff1))]) M w 0 7 clX7 rfl (by decide) G236 rfl rfl rfl rfl (Nat.le_of_ble_eq_true rfl) rfl dX7_begin_73 (fun H locs w => ?_)
  exact ret ((iI 0), (iI x3), (iI 0), (iI 0), (va_cpy (cI f4) f0 (Int32.toNatClampNeg (iI 0)) (Int32.toNatClampNeg (iI 0)) (Int32.toNatClampNeg (iI 9))), (cpz f5 f1 0 0 9), (cpz f6 f2 0 0 9), ff1) _ _ _ _ _ [0, 1, 2, 3, 4, 8, 5, 6, 7] dX7_begin_76 ⟨(rng_cp f5_h f1_h), (rng_cp f6_h f2_h)⟩ w (by decide) rfl
set_option maxRecDepth 100000 in
set_option maxHeartbeats 4000000 in
theorem c220_X7_copy (l : Launch) (D : va_G) (T : Nat → ClassId) (sz : Nat) (a0 : Nat) (a1 : Nat) (a2 : Nat) (a3 : Nat) (a4 : Nat) (a5 : Nat) (r0 : Int32) (r1 : Int32) (r2 : Int32) (r3 : Int32) (a6 : Nat) (a7 : Nat) (a8 : Nat) (a9 : Nat) (r4 : Int32) (r5 : Int32) (r6 : Int32) (r7 : Int32) (f0 : Nat → Int32) (f1 : Int → Int) (f2 : Int → Int) (f3 : Nat → Int32) (f4 : Nat → Int32) (f5 : Int → Int) (f6 : Int → Int) (f7 : Nat → Int32) (f1_h : rng (-1) 8 f1) (f2_h : rng (-1) 8 f2) (f5_h : rng (-1) 8 f5) (f6_h : rng (-1) 8 f6) : Met l yX7_copy (Cond.code yX7_copy cX7_copy 2 none :: GW) (Rm 1 0 0) (cPre [.ref a0, .ref a1] D T [(a0, .inr (7, [.ref a2, .ref a3, .ref a4, .ref a5, .int r0, .int r1, .int r2, .int r3])), (a1, .inr (7, [.ref a6, .ref a7, .ref a8, .ref a9, .int r4, .int r5, .int r6, .int r7])), (a2, .inl (T 0, 9, .inl f0)), (a3, .inl (T 0, 9, .inl (cI f1))), (a4, .inl (T 0, 9, .inl (cI f2))), (a5, .inl (T 0, 3, .inl f3)), (a6, .inl (T 0, 9, .inl f4)), (a7, .inl (T 0, 9, .inl (cI f5))), (a8, .inl (T 0, 9, .inl (cI f6))), (a9, .inl (T 0, 3, .inl f7))] sz) (qV D [(a0, .inr (7, [.ref a2, .ref a3, .ref a4, .ref a5, .int r0, .int r1, .int r2, .int r3])), (a1, .inr (7, [.ref a6, .ref a7, .ref a8, .ref a9, .int r4, .int r5, .int r6, .int r7])), (a2, .inl (T 0, 9, .inl f0)), (a3, .inl (T 0, 9, .inl (cI f1))), (a4, .inl (T 0, 9, .inl (cI f2))), (a5, .inl (T 0, 3, .inl f3)), (a6, .inl (T 0, 9, .inl f4)), (a7, .inl (T 0, 9, .inl (cI f5))), (a8, .inl (T 0, 9, .inl (cI f6))), (a9, .inl (T 0, 3, .inl f7))] sz (fun (u : Int32 × Int32 × Int32 × Int32 × (Nat → Int32) × (Int → Int) × (Int → Int) × (Nat → Int32)) => rng (-1) 8 u.2.2.2.2.2.1 ∧ rng (-1) 8 u.2.2.2.2.2.2.1) (fun u => [(a0, .inr (7, [.ref a2, .ref a3, .ref a4, .ref a5, .int u.1, .int u.2.1, .int u.2.2.1, .int u.2.2.2.1])), (a1, .inr (7, [.ref a6, .ref a7, .ref a8, .ref a9, .int r4, .int r5, .int r6, .int r7])), (a2, .inl (T 0, 9, .inl u.2.2.2.2.1)), (a3, .inl (T 0, 9, .inl (cI u.2.2.2.2.2.1))), (a4, .inl (T 0, 9, .inl (cI u.2.2.2.2.2.2.1))), (a5, .inl (T 0, 3, .inl u.2.2.2.2.2.2.2)), (a6, .inl (T 0, 9, .inl f4)), (a7, .inl (T 0, 9, .inl (cI f5))), (a8, .inl (T 0, 9, .inl (cI f6))), (a9, .inl (T 0, 3, .inl f7))])) 0 0 (va_A [(a0, .inr (7, [.ref a2, .ref a3, .ref a4, .ref a5, .int r0, .int r1, .int r2, .int r3])), (a1, .inr (7, [.ref a6, .ref a7, .ref a8, .ref a9, .int r4, .int r5, .int r6, .int r7])), (a2, .inl (T 0, 9, .inl f0)), (a3, .inl (T 0, 9, .inl (cI f1))), (a4, .inl (T 0, 9, .inl (cI f2))), (a5, .inl (T 0, 3, .inl f3)), (a6, .inl (T 0, 9, .inl f4)), (a7, .inl (T 0, 9, .inl (cI f5))), (a8, .inl (T 0, 9, .inl (cI f6))), (a9, .inl (T 0, 3, .inl f7))] sz) := by
  refine e_V (by decide) (Nat.le_of_ble_eq_true rfl) ?_
  intro p e s m args below meth c A Q ls M hin w ret hl
  have hx := M.1.1
  have hb := M.1.2.1
  have hl : lv_has ls 2 [(0, .ref a0), (1, .ref a1)] := hl
  refine lv_aload_n hx hb dX7_copy_0 rfl (lv_at hl 1 rfl) ?_
  refine r_get (v := .ref a6) M w 1 0 clX7 rfl (by decide) G215 rfl rfl dX7_copy_1 ?_
  refine lv_iconst (v := iI 0) hx hb dX7_copy_4 (by decide +kernel) ?_
  refine lv_aload_n hx hb dX7_copy_5 rfl (lv_at hl 0 rfl) ?_
  refine r_get (v := .ref a2) M w 0 0 clX7 rfl (by decide) G215 rfl rfl dX7_copy_6 ?_
  refine lv_iconst (v := iI 0) hx hb dX7_copy_9 (by decide +kernel) ?_
  refine lv_bipush (v := iI 9) hx hb dX7_copy_10 (by decide +kernel) ?_
  refine r_copyi (ws' := [(a0, .inr (7, [.ref a2, .ref a3, .ref a4, .ref a5, .int r0, .int r1, .int r2, .int r3])), (a1, .inr (7, [.ref a6, .ref a7, .ref a8, .ref a9, .int r4, .int r5, .int r6, .int r7])), (a2, .inl (T 0, 9, .inl (va_cpy f4 f0 (Int32.toNatClampNeg (iI 0)) (Int32.toNatClampNeg (iI 0)) (Int32.toNatClampNeg (iI 9))))), (a3, .inl (T 0, 9, .inl (cI f1))), (a4, .inl (T 0, 9, .inl (cI f2))), (a5, .inl (T 0, 3, .inl f3)), (a6, .inl (T 0, 9, .inl f4)), (a7, .inl (T 0, 9, .inl (cI f5))), (a8, .inl (T 0, 9, .inl (cI f6))), (a9, .inl (T 0, 3, .inl f7))]) M w 6 2 G794 G796 G795 G140 hl.1 rfl rfl (by decide +kernel) (by decide +kernel) (by decide +kernel) (by decide +kernel) (by decide +kernel) (by decide) (Nat.le_of_ble_eq_true rfl) rfl dX7_copy_12 (fun H locs w => ?_)
  refine lv_aload_n hx hb dX7_copy_15 rfl (lv_at hl 1 rfl) ?_
  refine r_get (v := .ref a7) M w 1 1 clX7 rfl (by decide) G220 rfl rfl dX7_copy_16 ?_
  refine lv_iconst (v := iI 0) hx hb dX7_copy_19 (by decide +kernel) ?_
  refine lv_aload_n hx hb dX7_copy_20 rfl (lv_at hl 0 rfl) ?_
  refine r_get (v := .ref a3) M w 0 1 clX7 rfl (by decide) G220 rfl rfl dX7_copy_21 ?_
  refine lv_iconst (v := iI 0) hx hb dX7_copy_24 (by decide +kernel) ?_
  refine lv_bipush (v := iI 9) hx hb dX7_copy_25 (by decide +kernel) ?_
  refine r_copyi (ws' := [(a0, .inr (7, [.ref a2, .ref a3, .ref a4, .ref a5, .int r0, .int r1, .int r2, .int r3])), (a1, .inr (7, [.ref a6, .ref a7, .ref a8, .ref a9, .int r4, .int r5, .int r6, .int r7])), (a2, .inl (T 0, 9, .inl (va_cpy f4 f0 (Int32.toNatClampNeg (iI 0)) (Int32.toNatClampNeg (iI 0)) (Int32.toNatClampNeg (iI 9))))), (a3, .inl (T 0, 9, .inl (cI (cpz f5 f1 0 0 9)))), (a4, .inl (T 0, 9, .inl (cI f2))), (a5, .inl (T 0, 3, .inl f3)), (a6, .inl (T 0, 9, .inl f4)), (a7, .inl (T 0, 9, .inl (cI f5))), (a8, .inl (T 0, 9, .inl (cI f6))), (a9, .inl (T 0, 3, .inl f7))]) M w 7 3 G794 G796 G795 G140 hl.1 rfl rfl (by decide +kernel) (by decide +kernel) (by decide +kernel) (by decide +kernel) (by decide +kernel) (by decide) (Nat.le_of_ble_eq_true rfl) (by rw [cI_cp (by decide) (by decide) (by decide) (by decide) (by decide) (by decide)]; rfl) dX7_copy_27 (fun H locs w => ?_)
  refine lv_aload_n hx hb dX7_copy_30 rfl (lv_at hl 1 rfl) ?_
  refine r_get (v := .ref a8) M w 1 2 clX7 rfl (by decide) G224 rfl rfl dX7_copy_31 ?_
  refine lv_iconst (v := iI 0) hx hb dX7_copy_34 (by decide +kernel) ?_
  refine lv_aload_n hx hb dX7_copy_35 rfl (lv_at hl 0 rfl) ?_
  refine r_get (v := .ref a4) M w 0 2 clX7 rfl (by decide) G224 rfl rfl dX7_copy_36 ?_
  refine lv_iconst (v := iI 0) hx hb dX7_copy_39 (by decide +kernel) ?_
  refine lv_bipush (v := iI 9) hx hb dX7_copy_40 (by decide +kernel) ?_
  refine r_copyi (ws' := [(a0, .inr (7, [.ref a2, .ref a3, .ref a4, .ref a5, .int r0, .int r1, .int r2, .int r3])), (a1, .inr (7, [.ref a6, .ref a7, .ref a8, .ref a9, .int r4, .int r5, .int r6, .int r7])), (a2, .inl (T 0, 9, .inl (va_cpy f4 f0 (Int32.toNatClampNeg (iI 0)) (Int32.toNatClampNeg (iI 0)) (Int32.toNatClampNeg (iI 9))))), (a3, .inl (T 0, 9, .inl (cI (cpz f5 f1 0 0 9)))), (a4, .inl (T 0, 9, .inl (cI (cpz f6 f2 0 0 9)))), (a5, .inl (T 0, 3, .inl f3)), (a6, .inl (T 0, 9, .inl f4)), (a7, .inl (T 0, 9, .inl (cI f5))), (a8, .inl (T 0, 9, .inl (cI f6))), (a9, .inl (T 0, 3, .inl f7))]) M w 8 4 G794 G796 G795 G140 hl.1 rfl rfl (by decide +kernel) (by decide +kernel) (by decide +kernel) (by decide +kernel) (by decide +kernel) (by decide) (Nat.le_of_ble_eq_true rfl) (by rw [cI_cp (by decide) (by decide) (by decide) (by decide) (by decide) (by decide)]; rfl) dX7_copy_42 (fun H locs w => ?_)
  refine lv_aload_n hx hb dX7_copy_45 rfl (lv_at hl 1 rfl) ?_
  refine r_get (v := .ref a9) M w 1 3 clX7 rfl (by decide) G227 rfl rfl dX7_copy_46 ?_
  refine lv_iconst (v := iI 0) hx hb dX7_copy_49 (by decide +kernel) ?_
  refine lv_aload_n hx hb dX7_copy_50 rfl (lv_at hl 0 rfl) ?_
  refine r_get (v := .ref a5) M w 0 3 clX7 rfl (by decide) G227 rfl rfl dX7_copy_51 ?_
  refine lv_iconst (v := iI 0) hx hb dX7_copy_54 (by decide +kernel) ?_
  refine lv_iconst (v := iI 3) hx hb dX7_copy_55 (by decide +kernel) ?_
  refine r_copyi (ws' := [(a0, .inr (7, [.ref a2, .ref a3, .ref a4, .ref a5, .int r0, .int r1, .int r2, .int r3])), (a1, .inr (7, [.ref a6, .ref a7, .ref a8, .ref a9, .int r4, .int r5, .int r6, .int r7])), (a2, .inl (T 0, 9, .inl (va_cpy f4 f0 (Int32.toNatClampNeg (iI 0)) (Int32.toNatClampNeg (iI 0)) (Int32.toNatClampNeg (iI 9))))), (a3, .inl (T 0, 9, .inl (cI (cpz f5 f1 0 0 9)))), (a4, .inl (T 0, 9, .inl (cI (cpz f6 f2 0 0 9)))), (a5, .inl (T 0, 3, .inl (va_cpy f7 f3 (Int32.toNatClampNeg (iI 0)) (Int32.toNatClampNeg (iI 0)) (Int32.toNatClampNeg (iI 3))))), (a6, .inl (T 0, 9, .inl f4)), (a7, .inl (T 0, 9, .inl (cI f5))), (a8, .inl (T 0, 9, .inl (cI f6))), (a9, .inl (T 0, 3, .inl f7))]) M w 9 5 G794 G796 G795 G140 hl.1 rfl rfl (by decide +kernel) (by decide +kernel) (by decide +kernel) (by decide +kernel) (by decide +kernel) (by decide) (Nat.le_of_ble_eq_true rfl) rfl dX7_copy_56 (fun H locs w => ?_)
  refine lv_aload_n hx hb dX7_copy_59 rfl (lv_at hl 0 rfl) ?_
  refine lv_aload_n hx hb dX7_copy_60 rfl (lv_at hl 1 rfl) ?_
  refine r_get (v := .int r4) M w 1 4 clX7 rfl (by decide) G229 rfl rfl dX7_copy_61 ?_
  refine b_any (fun z1 z1_a z1_b => ?_)
  refine r_put (ws' := [(a0, .inr (7, [.ref a2, .ref a3, .ref a4, .ref a5, .int (iI z1), .int r1, .int r2, .int r3])), (a1, .inr (7, [.ref a6, .ref a7, .ref a8, .ref a9, .int r4, .int r5, .int r6, .int r7])), (a2, .inl (T 0, 9, .inl (va_cpy f4 f0 (Int32.toNatClampNeg (iI 0)) (Int32.toNatClampNeg (iI 0)) (Int32.toNatClampNeg (iI 9))))), (a3, .inl (T 0, 9, .inl (cI (cpz f5 f1 0 0 9)))), (a4, .inl (T 0, 9, .inl (cI (cpz f6 f2 0 0 9)))), (a5, .inl (T 0, 3, .inl (va_cpy f7 f3 (Int32.toNatClampNeg (iI 0)) (Int32.toNatClampNeg (iI 0)) (Int32.toNatClampNeg (iI 3))))), (a6, .inl (T 0, 9, .inl f4)), (a7, .inl (T 0, 9, .inl (cI f5))), (a8, .inl (T 0, 9, .inl (cI f6))), (a9, .inl (T 0, 3, .inl f7))]) M w 0 4 clX7 rfl (by decide) G229 rfl rfl rfl rfl (Nat.le_of_ble_eq_true rfl) rfl dX7_copy_64 (fun H locs w => ?_)
  refine lv_aload_n hx hb dX7_copy_67 rfl (lv_at hl 0 rfl) ?_
  refine lv_aload_n hx hb dX7_copy_68 rfl (lv_at hl 1 rfl) ?_
  refine r_get (v := .int r5) M w 1 5 clX7 rfl (by decide) G232 rfl rfl dX7_copy_69 ?_
  refine b_any (fun z2 z2_a z2_b => ?_)
  refine r_put (ws' := [(a0, .inr (7, [.ref a2, .ref a3, .ref a4, .ref a5, .int (iI z1), .int (iI z2), .int r2, .int r3])), (a1, .inr (7, [.ref a6, .ref a7, .ref a8, .ref a9, .int r4, .int r5, .int r6, .int r7])), (a2, .inl (T 0, 9, .inl (va_cpy f4 f0 (Int32.toNatClampNeg (iI 0)) (Int32.toNatClampNeg (iI 0)) (Int32.toNatClampNeg (iI 9))))), (a3, .inl (T 0, 9, .inl (cI (cpz f5 f1 0 0 9)))), (a4, .inl (T 0, 9, .inl (cI (cpz f6 f2 0 0 9)))), (a5, .inl (T 0, 3, .inl (va_cpy f7 f3 (Int32.toNatClampNeg (iI 0)) (Int32.toNatClampNeg (iI 0)) (Int32.toNatClampNeg (iI 3))))), (a6, .inl (T 0, 9, .inl f4)), (a7, .inl (T 0, 9, .inl (cI f5))), (a8, .inl (T 0, 9, .inl (cI f6))), (a9, .inl (T 0, 3, .inl f7))]) M w 0 5 clX7 rfl (by decide) G232 rfl rfl rfl rfl (Nat.le_of_ble_eq_true rfl) rfl dX7_copy_72 (fun H locs w => ?_)
  refine lv_aload_n hx hb dX7_copy_75 rfl (lv_at hl 0 rfl) ?_
  refine lv_aload_n hx hb dX7_copy_76 rfl (lv_at hl 1 rfl) ?_
  refine r_get (v := .int r6) M w 1 6 clX7 rfl (by decide) G234 rfl rfl dX7_copy_77 ?_
  refine b_any (fun z3 z3_a z3_b => ?_)
  refine r_put (ws' := [(a0, .inr (7, [.ref a2, .ref a3, .ref a4, .ref a5, .int (iI z1), .int (iI z2), .int (iI z3), .int r3])), (a1, .inr (7, [.ref a6, .ref a7, .ref a8, .ref a9, .int r4, .int r5, .int r6, .int r7])), (a2, .inl (T 0, 9, .inl (va_cpy f4 f0 (Int32.toNatClampNeg (iI 0)) (Int32.toNatClampNeg (iI 0)) (Int32.toNatClampNeg (iI 9))))), (a3, .inl (T 0, 9, .inl (cI (cpz f5 f1 0 0 9)))), (a4, .inl (T 0, 9, .inl (cI (cpz f6 f2 0 0 9)))), (a5, .inl (T 0, 3, .inl (va_cpy f7 f3 (Int32.toNatClampNeg (iI 0)) (Int32.toNatClampNeg (iI 0)) (Int32.toNatClampNeg (iI 3))))), (a6, .inl (T 0, 9, .inl f4)), (a7, .inl (T 0, 9, .inl (cI f5))), (a8, .inl (T 0, 9, .inl (cI f6))), (a9, .inl (T 0, 3, .inl f7))]) M w 0 6 clX7 rfl (by decide) G234 rfl rfl rfl rfl (Nat.le_of_ble_eq_true rfl) rfl dX7_copy_80 (fun H locs w => ?_)
  refine lv_aload_n hx hb dX7_copy_83 rfl (lv_at hl 0 rfl) ?_
  refine lv_aload_n hx hb dX7_copy_84 rfl (lv_at hl 1 rfl) ?_
  refine r_get (v := .int r7) M w 1 7 clX7 rfl (by decide) G236 rfl rfl dX7_copy_85 ?_
  refine b_any (fun z4 z4_a z4_b => ?_)
  refine r_put (ws' := [(a0, .inr (7, [.ref a2, .ref a3, .ref a4, .ref a5, .int (iI z1), .int (iI z2), .int (iI z3), .int (iI z4)])), (a1, .inr (7, [.ref a6, .ref a7, .ref a8, .ref a9, .int r4, .int r5, .int r6, .int r7])), (a2, .inl (T 0, 9, .inl (va_cpy f4 f0 (Int32.toNatClampNeg (iI 0)) (Int32.toNatClampNeg (iI 0)) (Int32.toNatClampNeg (iI 9))))), (a3, .inl (T 0, 9, .inl (cI (cpz f5 f1 0 0 9)))), (a4, .inl (T 0, 9, .inl (cI (cpz f6 f2 0 0 9)))), (a5, .inl (T 0, 3, .inl (va_cpy f7 f3 (Int32.toNatClampNeg (iI 0)) (Int32.toNatClampNeg (iI 0)) (Int32.toNatClampNeg (iI 3))))), (a6, .inl (T 0, 9, .inl f4)), (a7, .inl (T 0, 9, .inl (cI f5))), (a8, .inl (T 0, 9, .inl (cI f6))), (a9, .inl (T 0, 3, .inl f7))]) M w 0 7 clX7 rfl (by decide) G236 rfl rfl rfl rfl (Nat.le_of_ble_eq_true rfl) rfl dX7_copy_88 (fun H locs w => ?_)
  exact ret ((iI z1), (iI z2), (iI z3), (iI z4), (va_cpy f4 f0 (Int32.toNatClampNeg (iI 0)) (Int32.toNatClampNeg (iI 0)) (Int32.toNatClampNeg (iI 9))), (cpz f5 f1 0 0 9), (cpz f6 f2 0 0 9), (va_cpy f7 f3 (Int32.toNatClampNeg (iI 0)) (Int32.toNatClampNeg (iI 0)) (Int32.toNatClampNeg (iI 3)))) _ _ _ _ _ [0, 1, 2, 3, 4, 5, 6, 7, 8, 9] dX7_copy_91 ⟨(rng_cp f5_h f1_h), (rng_cp f6_h f2_h)⟩ w (by decide) rfl
set_option maxRecDepth 100000 in
set_option maxHeartbeats 4000000 in
theorem c221_X9_isStreet (l : Launch) (D : va_G) (T : Nat → ClassId) (sz : Nat) (a0 : Nat) (x0 : Int) (x1 : Int) (a1 : Nat) (a2 : Nat) (a3 : Nat) (a4 : Nat) (a5 : Nat) (a6 : Nat) (a7 : Nat) (a8 : Nat) (a9 : Nat) (x2 : Int) (x3 : Int) (x4 : Int) (x5 : Int) (x6 : Int) (x7 : Int) (x8 : Int) (x9 : Int) (x10 : Int) (f0 : Int → Int) (x0_a : 0 ≤ x0) (x0_b : x0 ≤ 8) (x1_a : 0 ≤ x1) (x1_b : x1 ≤ 8) (x2_a : 0 ≤ x2) (x2_b : x2 ≤ 9) (x3_a : 0 ≤ x3) (x3_b : x3 ≤ 3) (x4_a : 0 ≤ x4) (x4_b : x4 ≤ 900) (x5_a : (-2147483648) ≤ x5) (x5_b : x5 ≤ 2147483647) (x6_a : (-2147483648) ≤ x6) (x6_b : x6 ≤ 2147483647) (x7_a : (-2147483648) ≤ x7) (x7_b : x7 ≤ 2147483647) (x8_a : 0 ≤ x8) (x8_b : x8 ≤ 1) (x9_a : 0 ≤ x9) (x9_b : x9 ≤ 1) (x10_a : 0 ≤ x10) (x10_b : x10 ≤ 1) (f0_h : rng 0 511 f0) : Met l yX9_isStreet (Cond.code yX9_isStreet cX9_isStreet 3 (some .boolean) :: GW) (Rm 0 0 0) (cPre [.ref a0, .int (iI x0), .int (iI x1)] D T [(a0, .inr (9, [.ref a1, .ref a2, .ref a3, .ref a4, .ref a5, .ref a6, .ref a7, .ref a8, .ref a9, .int (iI x2), .int (iI x3), .int (iI x4), .int (iI x5), .int (iI x6), .int (iI x7), .int (iI x8), .int (iI x9), .int (iI x10)])), (a5, .inl (T 0, 9, .inl (cI f0)))] sz) (qI D [(a0, .inr (9, [.ref a1, .ref a2, .ref a3, .ref a4, .ref a5, .ref a6, .ref a7, .ref a8, .ref a9, .int (iI x2), .int (iI x3), .int (iI x4), .int (iI x5), .int (iI x6), .int (iI x7), .int (iI x8), .int (iI x9), .int (iI x10)])), (a5, .inl (T 0, 9, .inl (cI f0)))] sz (fun (v : Int32) (u : Int) => iI u = v ∧ 0 ≤ u ∧ u ≤ 1) (fun u => [(a0, .inr (9, [.ref a1, .ref a2, .ref a3, .ref a4, .ref a5, .ref a6, .ref a7, .ref a8, .ref a9, .int (iI x2), .int (iI x3), .int (iI x4), .int (iI x5), .int (iI x6), .int (iI x7), .int (iI x8), .int (iI x9), .int (iI x10)])), (a5, .inl (T 0, 9, .inl (cI f0)))])) 0 0 (va_A [(a0, .inr (9, [.ref a1, .ref a2, .ref a3, .ref a4, .ref a5, .ref a6, .ref a7, .ref a8, .ref a9, .int (iI x2), .int (iI x3), .int (iI x4), .int (iI x5), .int (iI x6), .int (iI x7), .int (iI x8), .int (iI x9), .int (iI x10)])), (a5, .inl (T 0, 9, .inl (cI f0)))] sz) := by
  refine e_Z (by decide) (Nat.le_of_ble_eq_true rfl) ?_
  intro p e s m args below meth c A Q ls M hin w ret hl
  have hx := M.1.1
  have hb := M.1.2.1
  have hl : lv_has ls 3 [(0, .ref a0), (1, .int (iI x0)), (2, .int (iI x1))] := hl
  refine lv_aload_n hx hb dX9_isStreet_0 rfl (lv_at hl 0 rfl) ?_
  refine r_get (v := .ref a5) M w 0 4 clX9 rfl (by decide) G375 rfl rfl dX9_isStreet_1 ?_
  refine lv_iload_n hx hb dX9_isStreet_4 rfl (lv_at hl 1 rfl) ?_
  refine r_iald (v := iI (f0 x0)) M w 1 rfl (iI_in (by omega) (by omega) (by decide)) (cI_at (by omega) (by omega)) dX9_isStreet_5 ?_
  have hh1 : 0 ≤ (f0 x0) ∧ (f0 x0) ≤ 511 := f0_h x0
  refine lv_iload_n hx hb dX9_isStreet_6 rfl (lv_at hl 2 rfl) ?_
  refine r_ishr (v := _) M rfl dX9_isStreet_7 ?_
  refine b_any (fun z2 z2_a z2_b => ?_)
  refine lv_iconst (v := iI 1) hx hb dX9_isStreet_8 (by decide +kernel) ?_
  refine r_iand (v := _) M rfl dX9_isStreet_9 ?_
  refine b_rng (lo := 0) (hi := 1) (iand_r (by omega) (by omega)) (fun z3 z3_a z3_b => ?_)
  refine lv_if_eq (tgt := 17) hx hb dX9_isStreet_10 (by decide) (fun c_4 => ?_) (fun c_4 => ?_)
  · replace c_4 := (iz_eq (Int.le_trans (by decide) z3_a) (Int.le_trans z3_b (by decide))).mp c_4
    refine lv_iconst (v := iI 0) hx hb dX9_isStreet_17 (by decide +kernel) ?_
    exact ret _ 0 _ _ _ _ _ [0, 1] dX9_isStreet_18 (by decide +kernel) ⟨rfl, (show (0 : Int) ≤ 0 from by decide), (show (0 : Int) ≤ 1 from by decide)⟩ w (by decide) rfl
  · replace c_4 : ¬ z3 = 0 := fun h => c_4 ((iz_eq (Int.le_trans (by decide) z3_a) (Int.le_trans z3_b (by decide))).mpr h)
    refine lv_iconst (v := iI 1) hx hb dX9_isStreet_13 (by decide +kernel) ?_
    refine lv_goto (tgt := 18) hx hb dX9_isStreet_14 (by decide) ?_
    exact ret _ 1 _ _ _ _ _ [0, 1] dX9_isStreet_18 (by decide +kernel) ⟨rfl, (show (0 : Int) ≤ 1 from by decide), (show (1 : Int) ≤ 1 from by decide)⟩ w (by decide) rfl
set_option maxRecDepth 100000 in
set_option maxHeartbeats 4000000 in
theorem c222_X9_fits (l : Launch) (D : va_G) (T : Nat → ClassId) (sz : Nat) (a0 : Nat) (x0 : Int) (x1 : Int) (a1 : Nat) (a2 : Nat) (a3 : Nat) (a4 : Nat) (a5 : Nat) (a6 : Nat) (a7 : Nat) (a8 : Nat) (a9 : Nat) (x2 : Int) (x3 : Int) (x4 : Int) (x5 : Int) (x6 : Int) (x7 : Int) (x8 : Int) (x9 : Int) (x10 : Int) (f0 : Int → Int) (f1 : Int → Int) (x0_a : 0 ≤ x0) (x0_b : x0 ≤ 8) (x1_a : 0 ≤ x1) (x1_b : x1 ≤ 8) (x2_a : 0 ≤ x2) (x2_b : x2 ≤ 9) (x3_a : 0 ≤ x3) (x3_b : x3 ≤ 3) (x4_a : 0 ≤ x4) (x4_b : x4 ≤ 900) (x5_a : (-2147483648) ≤ x5) (x5_b : x5 ≤ 2147483647) (x6_a : (-2147483648) ≤ x6) (x6_b : x6 ≤ 2147483647) (x7_a : (-2147483648) ≤ x7) (x7_b : x7 ≤ 2147483647) (x8_a : 0 ≤ x8) (x8_b : x8 ≤ 1) (x9_a : 0 ≤ x9) (x9_b : x9 ≤ 1) (x10_a : 0 ≤ x10) (x10_b : x10 ≤ 1) (f0_h : rng (-2147483648) 2147483647 f0) (f1_h : rng (-2147483648) 2147483647 f1) : Met l yX9_fits (Cond.code yX9_fits cX9_fits 3 (some .boolean) :: GW) (Rm 0 0 0) (cPre [.ref a0, .int (iI x0), .int (iI x1)] D T [(a0, .inr (9, [.ref a1, .ref a2, .ref a3, .ref a4, .ref a5, .ref a6, .ref a7, .ref a8, .ref a9, .int (iI x2), .int (iI x3), .int (iI x4), .int (iI x5), .int (iI x6), .int (iI x7), .int (iI x8), .int (iI x9), .int (iI x10)])), (a2, .inl (T 0, 9, .inl (cI f0))), (a3, .inl (T 0, 9, .inl (cI f1)))] sz) (qI D [(a0, .inr (9, [.ref a1, .ref a2, .ref a3, .ref a4, .ref a5, .ref a6, .ref a7, .ref a8, .ref a9, .int (iI x2), .int (iI x3), .int (iI x4), .int (iI x5), .int (iI x6), .int (iI x7), .int (iI x8), .int (iI x9), .int (iI x10)])), (a2, .inl (T 0, 9, .inl (cI f0))), (a3, .inl (T 0, 9, .inl (cI f1)))] sz (fun (v : Int32) (u : Int) => iI u = v ∧ 0 ≤ u ∧ u ≤ 1) (fun u => [(a0, .inr (9, [.ref a1, .ref a2, .ref a3, .ref a4, .ref a5, .ref a6, .ref a7, .ref a8, .ref a9, .int (iI x2), .int (iI x3), .int (iI x4), .int (iI x5), .int (iI x6), .int (iI x7), .int (iI x8), .int (iI x9), .int (iI x10)])), (a2, .inl (T 0, 9, .inl (cI f0))), (a3, .inl (T 0, 9, .inl (cI f1)))])) 0 0 (va_A [(a0, .inr (9, [.ref a1, .ref a2, .ref a3, .ref a4, .ref a5, .ref a6, .ref a7, .ref a8, .ref a9, .int (iI x2), .int (iI x3), .int (iI x4), .int (iI x5), .int (iI x6), .int (iI x7), .int (iI x8), .int (iI x9), .int (iI x10)])), (a2, .inl (T 0, 9, .inl (cI f0))), (a3, .inl (T 0, 9, .inl (cI f1)))] sz) := by
  refine e_Z (by decide) (Nat.le_of_ble_eq_true rfl) ?_
  intro p e s m args below meth c A Q ls M hin w ret hl
  have hx := M.1.1
  have hb := M.1.2.1
  have hl : lv_has ls 3 [(0, .ref a0), (1, .int (iI x0)), (2, .int (iI x1))] := hl
  refine lv_aload_n hx hb dX9_fits_0 rfl (lv_at hl 0 rfl) ?_
  refine r_get (v := .ref a3) M w 0 2 clX9 rfl (by decide) G370 rfl rfl dX9_fits_1 ?_
  refine lv_iload_n hx hb dX9_fits_4 rfl (lv_at hl 1 rfl) ?_
  refine r_iald (v := iI (f1 x0)) M w 2 rfl (iI_in (by omega) (by omega) (by decide)) (cI_at (by omega) (by omega)) dX9_fits_5 ?_
  have hh1 : (-2147483648) ≤ (f1 x0) ∧ (f1 x0) ≤ 2147483647 := f1_h x0
  refine lv_aload_n hx hb dX9_fits_6 rfl (lv_at hl 0 rfl) ?_
  refine r_get (v := .ref a2) M w 0 1 clX9 rfl (by decide) G368 rfl rfl dX9_fits_7 ?_
  refine lv_iload_n hx hb dX9_fits_10 rfl (lv_at hl 2 rfl) ?_
  refine r_iald (v := iI (f0 x1)) M w 1 rfl (iI_in (by omega) (by omega) (by decide)) (cI_at (by omega) (by omega)) dX9_fits_11 ?_
  have hh2 : (-2147483648) ≤ (f0 x1) ∧ (f0 x1) ≤ 2147483647 := f0_h x1
  refine lv_icmp_ne (tgt := 19) hx hb dX9_fits_12 (by decide) (fun c_3 => ?_) (fun c_3 => ?_)
  · replace c_3 : ¬ (f1 x0) = (f0 x1) := fun h => c_3 ((iI_eq (by omega) (by omega) (by omega) (by omega)).mpr h)
    refine lv_iconst (v := iI 0) hx hb dX9_fits_19 (by decide +kernel) ?_
    exact ret _ 0 _ _ _ _ _ [0, 1, 2] dX9_fits_20 (by decide +kernel) ⟨rfl, (show (0 : Int) ≤ 0 from by decide), (show (0 : Int) ≤ 1 from by decide)⟩ w (by decide) rfl
  · replace c_3 := (iI_eq (by omega) (by omega) (by omega) (by omega)).mp c_3
    refine lv_iconst (v := iI 1) hx hb dX9_fits_15 (by decide +kernel) ?_
    refine lv_goto (tgt := 20) hx hb dX9_fits_16 (by decide) ?_
    exact ret _ 1 _ _ _ _ _ [0, 1, 2] dX9_fits_20 (by decide +kernel) ⟨rfl, (show (0 : Int) ≤ 1 from by decide), (show (1 : Int) ≤ 1 from by decide)⟩ w (by decide) rfl
set_option maxRecDepth 100000 in
set_option maxHeartbeats 4000000 in
theorem c223_X7_whyNotInto (l : Launch) (D : va_G) (T : Nat → ClassId) (sz : Nat) (a0 : Nat) (a1 : Nat) (x0 : Int) (x1 : Int) (a2 : Nat) (a3 : Nat) (a4 : Nat) (a5 : Nat) (r0 : Int32) (r1 : Int32) (r2 : Int32) (r3 : Int32) (a6 : Nat) (a7 : Nat) (a8 : Nat) (a9 : Nat) (a10 : Nat) (a11 : Nat) (a12 : Nat) (a13 : Nat) (a14 : Nat) (x2 : Int) (x3 : Int) (x4 : Int) (x5 : Int) (x6 : Int) (x7 : Int) (x8 : Int) (x9 : Int) (x10 : Int) (f0 : Nat → Int32) (f1 : Int → Int) (f2 : Int → Int) (f3 : Int → Int) (f4 : Int → Int) (f5 : Int → Int) (x0_a : 0 ≤ x0) (x0_b : x0 ≤ 8) (x1_a : 0 ≤ x1) (x1_b : x1 ≤ 8) (x2_a : 0 ≤ x2) (x2_b : x2 ≤ 9) (x3_a : 0 ≤ x3) (x3_b : x3 ≤ 3) (x4_a : 0 ≤ x4) (x4_b : x4 ≤ 900) (x5_a : (-2147483648) ≤ x5) (x5_b : x5 ≤ 2147483647) (x6_a : (-2147483648) ≤ x6) (x6_b : x6 ≤ 2147483647) (x7_a : (-2147483648) ≤ x7) (x7_b : x7 ≤ 2147483647) (x8_a : 0 ≤ x8) (x8_b : x8 ≤ 1) (x9_a : 0 ≤ x9) (x9_b : x9 ≤ 1) (x10_a : 0 ≤ x10) (x10_b : x10 ≤ 1) (f1_h : rng (-1) 8 f1) (f2_h : rng (-1) 8 f2) (f3_h : rng (-2147483648) 2147483647 f3) (f4_h : rng (-2147483648) 2147483647 f4) (f5_h : rng 0 511 f5) : Met l yX7_whyNotInto (Cond.code yX7_whyNotInto cX7_whyNotInto 4 (some .int) :: GW) (Rm 1 0 0) (cPre [.ref a0, .ref a1, .int (iI x0), .int (iI x1)] D T [(a0, .inr (7, [.ref a2, .ref a3, .ref a4, .ref a5, .int r0, .int r1, .int r2, .int r3])), (a1, .inr (9, [.ref a6, .ref a7, .ref a8, .ref a9, .ref a10, .ref a11, .ref a12, .ref a13, .ref a14, .int (iI x2), .int (iI x3), .int (iI x4), .int (iI x5), .int (iI x6), .int (iI x7), .int (iI x8), .int (iI x9), .int (iI x10)])), (a2, .inl (T 0, 9, .inl f0)), (a3, .inl (T 0, 9, .inl (cI f1))), (a4, .inl (T 0, 9, .inl (cI f2))), (a7, .inl (T 0, 9, .inl (cI f3))), (a8, .inl (T 0, 9, .inl (cI f4))), (a10, .inl (T 0, 9, .inl (cI f5)))] sz) (qI D [(a0, .inr (7, [.ref a2, .ref a3, .ref a4, .ref a5, .int r0, .int r1, .int r2, .int r3])), (a1, .inr (9, [.ref a6, .ref a7, .ref a8, .ref a9, .ref a10, .ref a11, .ref a12, .ref a13, .ref a14, .int (iI x2), .int (iI x3), .int (iI x4), .int (iI x5), .int (iI x6), .int (iI x7), .int (iI x8), .int (iI x9), .int (iI x10)])), (a2, .inl (T 0, 9, .inl f0)), (a3, .inl (T 0, 9, .inl (cI f1))), (a4, .inl (T 0, 9, .inl (cI f2))), (a7, .inl (T 0, 9, .inl (cI f3))), (a8, .inl (T 0, 9, .inl (cI f4))), (a10, .inl (T 0, 9, .inl (cI f5)))] sz (fun (v : Int32) (u : Int) => iI u = v ∧ (-2147483648) ≤ u ∧ u ≤ 2147483647) (fun u => [(a0, .inr (7, [.ref a2, .ref a3, .ref a4, .ref a5, .int r0, .int r1, .int r2, .int r3])), (a1, .inr (9, [.ref a6, .ref a7, .ref a8, .ref a9, .ref a10, .ref a11, .ref a12, .ref a13, .ref a14, .int (iI x2), .int (iI x3), .int (iI x4), .int (iI x5), .int (iI x6), .int (iI x7), .int (iI x8), .int (iI x9), .int (iI x10)])), (a2, .inl (T 0, 9, .inl f0)), (a3, .inl (T 0, 9, .inl (cI f1))), (a4, .inl (T 0, 9, .inl (cI f2))), (a7, .inl (T 0, 9, .inl (cI f3))), (a8, .inl (T 0, 9, .inl (cI f4))), (a10, .inl (T 0, 9, .inl (cI f5)))])) 0 0 (va_A [(a0, .inr (7, [.ref a2, .ref a3, .ref a4, .ref a5, .int r0, .int r1, .int r2, .int r3])), (a1, .inr (9, [.ref a6, .ref a7, .ref a8, .ref a9, .ref a10, .ref a11, .ref a12, .ref a13, .ref a14, .int (iI x2), .int (iI x3), .int (iI x4), .int (iI x5), .int (iI x6), .int (iI x7), .int (iI x8), .int (iI x9), .int (iI x10)])), (a2, .inl (T 0, 9, .inl f0)), (a3, .inl (T 0, 9, .inl (cI f1))), (a4, .inl (T 0, 9, .inl (cI f2))), (a7, .inl (T 0, 9, .inl (cI f3))), (a8, .inl (T 0, 9, .inl (cI f4))), (a10, .inl (T 0, 9, .inl (cI f5)))] sz) := by
  refine e_I (by decide) (Nat.le_of_ble_eq_true rfl) ?_
  intro p e s m args below meth c A Q ls M hin w ret hl
  have hx := M.1.1
  have hb := M.1.2.1
  have hl : lv_has ls 4 [(0, .ref a0), (1, .ref a1), (2, .int (iI x0)), (3, .int (iI x1))] := hl
  refine lv_iload_n hx hb dX7_whyNotInto_0 rfl (lv_at hl 2 rfl) ?_
  refine lv_iload_n hx hb dX7_whyNotInto_1 rfl (lv_at hl 3 rfl) ?_
  refine lv_icmp_ne (tgt := 7) hx hb dX7_whyNotInto_2 (by decide) (fun c_1 => ?_) (fun c_1 => ?_)
  · replace c_1 : ¬ x0 = x1 := fun h => c_1 ((iI_eq (Int.le_trans (by decide) x0_a) (Int.le_trans x0_b (by decide)) (Int.le_trans (by decide) x1_a) (Int.le_trans x1_b (by decide))).mpr h)
    refine lv_aload_n hx hb dX7_whyNotInto_7 rfl (lv_at hl 1 rfl) ?_
    refine lv_iload_n hx hb dX7_whyNotInto_8 rfl (lv_at hl 2 rfl) ?_
    refine lv_iload_n hx hb dX7_whyNotInto_9 rfl (lv_at hl 3 rfl) ?_
    refine k_I (ce := 0) (sl := 0) (rest := []) (wr := [(a0, .inr (7, [.ref a2, .ref a3, .ref a4, .ref a5, .int r0, .int r1, .int r2, .int r3])), (a2, .inl (T 0, 9, .inl f0)), (a3, .inl (T 0, 9, .inl (cI f1))), (a4, .inl (T 0, 9, .inl (cI f2))), (a7, .inl (T 0, 9, .inl (cI f3))), (a8, .inl (T 0, 9, .inl (cI f4)))]) (r_V (f := 0) [1, 7] M w V_HookedCity_State_66 G852 G853 (c221_X9_isStreet l D T _ a1 x0 x1 a6 a7 a8 a9 a10 a11 a12 a13 a14 x2 x3 x4 x5 x6 x7 x8 x9 x10 f5 x0_a x0_b x1_a x1_b x2_a x2_b x3_a x3_b x4_a x4_b x5_a x5_b x6_a x6_b x7_a x7_b x8_a x8_b x9_a x9_b x10_a x10_b f5_h) 1 clX9 rfl rfl (by decide) rfl hl.1 rfl (Nat.le_of_ble_eq_true rfl) dX7_whyNotInto_10 (by decide) (by decide) (by decide) (by decide)) w [1, 7] [0, 2, 3, 4, 5, 6] rfl rfl (by decide) (by decide) rfl rfl (fun v z2 H locs hp w => ?_)
    have hv : iI z2 = v := hp.1
    subst hv
    have z2_a : 0 ≤ z2 := hp.2.1
    have z2_b : z2 ≤ 1 := hp.2.2
    have w : WD D A s.heap [(a0, .inr (7, [.ref a2, .ref a3, .ref a4, .ref a5, .int r0, .int r1, .int r2, .int r3])), (a2, .inl (T 0, 9, .inl f0)), (a3, .inl (T 0, 9, .inl (cI f1))), (a4, .inl (T 0, 9, .inl (cI f2))), (a7, .inl (T 0, 9, .inl (cI f3))), (a8, .inl (T 0, 9, .inl (cI f4))), (a1, .inr (9, [.ref a6, .ref a7, .ref a8, .ref a9, .ref a10, .ref a11, .ref a12, .ref a13, .ref a14, .int (iI x2), .int (iI x3), .int (iI x4), .int (iI x5), .int (iI x6), .int (iI x7), .int (iI x8), .int (iI x9), .int (iI x10)])), (a10, .inl (T 0, 9, .inl (cI f5)))] H locs := w
    refine lv_if_ne (tgt := 18) hx hb dX7_whyNotInto_13 (by decide) (fun c_3 => ?_) (fun c_3 => ?_)
    · replace c_3 : ¬ z2 = 0 := fun h => c_3 ((iz_eq (Int.le_trans (by decide) z2_a) (Int.le_trans z2_b (by decide))).mpr h)
      refine lv_aload_n hx hb dX7_whyNotInto_18 rfl (lv_at hl 1 rfl) ?_
      refine lv_iload_n hx hb dX7_whyNotInto_19 rfl (lv_at hl 2 rfl) ?_
      refine lv_iload_n hx hb dX7_whyNotInto_20 rfl (lv_at hl 3 rfl) ?_
      refine k_I (ce := 0) (sl := 0) (rest := []) (wr := [(a0, .inr (7, [.ref a2, .ref a3, .ref a4, .ref a5, .int r0, .int r1, .int r2, .int r3])), (a2, .inl (T 0, 9, .inl f0)), (a3, .inl (T 0, 9, .inl (cI f1))), (a4, .inl (T 0, 9, .inl (cI f2))), (a10, .inl (T 0, 9, .inl (cI f5)))]) (r_V (f := 0) [6, 4, 5] M w V_HookedCity_State_70 G856 G857 (c222_X9_fits l D T _ a1 x0 x1 a6 a7 a8 a9 a10 a11 a12 a13 a14 x2 x3 x4 x5 x6 x7 x8 x9 x10 f3 f4 x0_a x0_b x1_a x1_b x2_a x2_b x3_a x3_b x4_a x4_b x5_a x5_b x6_a x6_b x7_a x7_b x8_a x8_b x9_a x9_b x10_a x10_b f3_h f4_h) 6 clX9 rfl rfl (by decide) rfl hl.1 rfl (Nat.le_of_ble_eq_true rfl) dX7_whyNotInto_21 (by decide) (by decide) (by decide) (by decide)) w [6, 4, 5] [0, 1, 2, 3, 7] rfl rfl (by decide) (by decide) rfl rfl (fun v z4 H locs hp w => ?_)
      have hv : iI z4 = v := hp.1
      subst hv
      have z4_a : 0 ≤ z4 := hp.2.1
      have z4_b : z4 ≤ 1 := hp.2.2
      have w : WD D A s.heap [(a0, .inr (7, [.ref a2, .ref a3, .ref a4, .ref a5, .int r0, .int r1, .int r2, .int r3])), (a2, .inl (T 0, 9, .inl f0)), (a3, .inl (T 0, 9, .inl (cI f1))), (a4, .inl (T 0, 9, .inl (cI f2))), (a10, .inl (T 0, 9, .inl (cI f5))), (a1, .inr (9, [.ref a6, .ref a7, .ref a8, .ref a9, .ref a10, .ref a11, .ref a12, .ref a13, .ref a14, .int (iI x2), .int (iI x3), .int (iI x4), .int (iI x5), .int (iI x6), .int (iI x7), .int (iI x8), .int (iI x9), .int (iI x10)])), (a7, .inl (T 0, 9, .inl (cI f3))), (a8, .inl (T 0, 9, .inl (cI f4)))] H locs := w
      refine lv_if_ne (tgt := 29) hx hb dX7_whyNotInto_24 (by decide) (fun c_5 => ?_) (fun c_5 => ?_)
      · replace c_5 : ¬ z4 = 0 := fun h => c_5 ((iz_eq (Int.le_trans (by decide) z4_a) (Int.le_trans z4_b (by decide))).mpr h)
        refine lv_aload_n hx hb dX7_whyNotInto_29 rfl (lv_at hl 0 rfl) ?_
        refine r_get (v := .ref a3) M w 0 1 clX7 rfl (by decide) G220 rfl rfl dX7_whyNotInto_30 ?_
        refine lv_iload_n hx hb dX7_whyNotInto_33 rfl (lv_at hl 2 rfl) ?_
        refine r_iald (v := iI (f1 x0)) M w 2 rfl (iI_in (by omega) (by omega) (by decide)) (cI_at (by omega) (by omega)) dX7_whyNotInto_34 ?_
        have hh6 : (-1) ≤ (f1 x0) ∧ (f1 x0) ≤ 8 := f1_h x0
        refine lv_iconst (v := iI (-1)) hx hb dX7_whyNotInto_35 (by decide +kernel) ?_
        refine lv_icmp_eq (tgt := 41) hx hb dX7_whyNotInto_36 (by decide) (fun c_7 => ?_) (fun c_7 => ?_)
        · replace c_7 := (iI_eq (by omega) (by omega) (by decide) (by decide)).mp c_7
          refine lv_aload_n hx hb dX7_whyNotInto_41 rfl (lv_at hl 0 rfl) ?_
          refine r_get (v := .ref a4) M w 0 2 clX7 rfl (by decide) G224 rfl rfl dX7_whyNotInto_42 ?_
          refine lv_iload_n hx hb dX7_whyNotInto_45 rfl (lv_at hl 3 rfl) ?_
          refine r_iald (v := iI (f2 x1)) M w 3 rfl (iI_in (by omega) (by omega) (by decide)) (cI_at (by omega) (by omega)) dX7_whyNotInto_46 ?_
          have hh8 : (-1) ≤ (f2 x1) ∧ (f2 x1) ≤ 8 := f2_h x1
          refine lv_iconst (v := iI (-1)) hx hb dX7_whyNotInto_47 (by decide +kernel) ?_
          refine lv_icmp_eq (tgt := 54) hx hb dX7_whyNotInto_48 (by decide) (fun c_9 => ?_) (fun c_9 => ?_)
          · replace c_9 := (iI_eq (by omega) (by omega) (by decide) (by decide)).mp c_9
            refine lv_aload_n hx hb dX7_whyNotInto_54 rfl (lv_at hl 0 rfl) ?_
            refine r_get (v := .ref a2) M w 0 0 clX7 rfl (by decide) G215 rfl rfl dX7_whyNotInto_55 ?_
            refine lv_iload_n hx hb dX7_whyNotInto_58 rfl (lv_at hl 3 rfl) ?_
            refine r_iald (v := _) M w 1 rfl (iI_in (by omega) (by omega) (by decide)) rfl dX7_whyNotInto_59 ?_
            refine b_any (fun z10 z10_a z10_b => ?_)
            refine lv_if_ne (tgt := 68) hx hb dX7_whyNotInto_60 (by decide) (fun c_11 => ?_) (fun c_11 => ?_)
            · replace c_11 : ¬ z10 = 0 := fun h => c_11 ((iz_eq (Int.le_trans (by decide) z10_a) (Int.le_trans z10_b (by decide))).mpr h)
              refine lv_iconst (v := iI 0) hx hb dX7_whyNotInto_68 (by decide +kernel) ?_
              exact ret _ 0 _ _ _ _ _ [0, 5, 1, 2, 3, 6, 7, 4] dX7_whyNotInto_69 ⟨rfl, (show (-2147483648) ≤ 0 from by decide), (show (0 : Int) ≤ 2147483647 from by decide)⟩ w (by decide) rfl
            · replace c_11 := (iz_eq (Int.le_trans (by decide) z10_a) (Int.le_trans z10_b (by decide))).mp c_11
              refine lv_bipush (v := iI 7) hx hb dX7_whyNotInto_63 (by decide +kernel) ?_
              refine lv_goto (tgt := 69) hx hb dX7_whyNotInto_65 (by decide) ?_
              exact ret _ 7 _ _ _ _ _ [0, 5, 1, 2, 3, 6, 7, 4] dX7_whyNotInto_69 ⟨rfl, (show (-2147483648) ≤ 7 from by decide), (show (7 : Int) ≤ 2147483647 from by decide)⟩ w (by decide) rfl
          · replace c_9 : ¬ (f2 x1) = (-1) := fun h => c_9 ((iI_eq (by omega) (by omega) (by decide) (by decide)).mpr h)
            refine lv_bipush (v := iI 6) hx hb dX7_whyNotInto_51 (by decide +kernel) ?_
            exact ret _ 6 _ _ _ _ _ [0, 5, 1, 2, 3, 6, 7, 4] dX7_whyNotInto_53 ⟨rfl, (show (-2147483648) ≤ 6 from by decide), (show (6 : Int) ≤ 2147483647 from by decide)⟩ w (by decide) rfl
        · replace c_7 : ¬ (f1 x0) = (-1) := fun h => c_7 ((iI_eq (by omega) (by omega) (by decide) (by decide)).mpr h)
          refine lv_iconst (v := iI 5) hx hb dX7_whyNotInto_39 (by decide +kernel) ?_
          exact ret _ 5 _ _ _ _ _ [0, 5, 1, 2, 3, 6, 7, 4] dX7_whyNotInto_40 ⟨rfl, (show (-2147483648) ≤ 5 from by decide), (show (5 : Int) ≤ 2147483647 from by decide)⟩ w (by decide) rfl
      · replace c_5 := (iz_eq (Int.le_trans (by decide) z4_a) (Int.le_trans z4_b (by decide))).mp c_5
        refine lv_iconst (v := iI 4) hx hb dX7_whyNotInto_27 (by decide +kernel) ?_
        exact ret _ 4 _ _ _ _ _ [0, 5, 1, 2, 3, 6, 7, 4] dX7_whyNotInto_28 ⟨rfl, (show (-2147483648) ≤ 4 from by decide), (show (4 : Int) ≤ 2147483647 from by decide)⟩ w (by decide) rfl
    · replace c_3 := (iz_eq (Int.le_trans (by decide) z2_a) (Int.le_trans z2_b (by decide))).mp c_3
      refine lv_iconst (v := iI 3) hx hb dX7_whyNotInto_16 (by decide +kernel) ?_
      exact ret _ 3 _ _ _ _ _ [0, 6, 1, 2, 3, 4, 5, 7] dX7_whyNotInto_17 ⟨rfl, (show (-2147483648) ≤ 3 from by decide), (show (3 : Int) ≤ 2147483647 from by decide)⟩ w (by decide) rfl
  · replace c_1 := (iI_eq (Int.le_trans (by decide) x0_a) (Int.le_trans x0_b (by decide)) (Int.le_trans (by decide) x1_a) (Int.le_trans x1_b (by decide))).mp c_1
    refine lv_iconst (v := iI 2) hx hb dX7_whyNotInto_5 (by decide +kernel) ?_
    exact ret _ 2 _ _ _ _ _ [0, 1, 2, 3, 4, 5, 6, 7] dX7_whyNotInto_6 ⟨rfl, (show (-2147483648) ≤ 2 from by decide), (show (2 : Int) ≤ 2147483647 from by decide)⟩ w (by decide) rfl
set_option maxRecDepth 100000 in
set_option maxHeartbeats 4000000 in
theorem c224_X7_whyNotDoUp (l : Launch) (D : va_G) (T : Nat → ClassId) (sz : Nat) (a0 : Nat) (a1 : Nat) (x0 : Int) (x1 : Int) (x2 : Int) (a2 : Nat) (a3 : Nat) (a4 : Nat) (a5 : Nat) (r0 : Int32) (r1 : Int32) (r2 : Int32) (r3 : Int32) (a6 : Nat) (a7 : Nat) (a8 : Nat) (a9 : Nat) (a10 : Nat) (a11 : Nat) (a12 : Nat) (a13 : Nat) (a14 : Nat) (x3 : Int) (x4 : Int) (x5 : Int) (x6 : Int) (x7 : Int) (x8 : Int) (x9 : Int) (x10 : Int) (x11 : Int) (f0 : Nat → Int32) (f1 : Int → Int) (f2 : Int → Int) (f3 : Nat → Int32) (f4 : Int → Int) (f5 : Int → Int) (f6 : Int → Int) (f7 : Int → Int) (x0_a : 0 ≤ x0) (x0_b : x0 ≤ 2) (x1_a : 0 ≤ x1) (x1_b : x1 ≤ 8) (x2_a : 0 ≤ x2) (x2_b : x2 ≤ 8) (x3_a : 0 ≤ x3) (x3_b : x3 ≤ 9) (x4_a : 0 ≤ x4) (x4_b : x4 ≤ 3) (x5_a : 0 ≤ x5) (x5_b : x5 ≤ 900) (x6_a : (-2147483648) ≤ x6) (x6_b : x6 ≤ 2147483647) (x7_a : (-2147483648) ≤ x7) (x7_b : x7 ≤ 2147483647) (x8_a : (-2147483648) ≤ x8) (x8_b : x8 ≤ 2147483647) (x9_a : 0 ≤ x9) (x9_b : x9 ≤ 1) (x10_a : 0 ≤ x10) (x10_b : x10 ≤ 1) (x11_a : 0 ≤ x11) (x11_b : x11 ≤ 1) (f1_h : rng (-1) 8 f1) (f2_h : rng (-1) 8 f2) (f4_h : rng (-2147483648) 2147483647 f4) (f5_h : rng (-2147483648) 2147483647 f5) (f6_h : rng 0 511 f6) (f7_h : rng (-2147483648) 2147483647 f7) : Met l yX7_whyNotDoUp (Cond.code yX7_whyNotDoUp cX7_whyNotDoUp 5 (some .int) :: GW) (Rm 2 0 0) (cPre [.ref a0, .ref a1, .int (iI x0), .int (iI x1), .int (iI x2)] D T [(a0, .inr (7, [.ref a2, .ref a3, .ref a4, .ref a5, .int r0, .int r1, .int r2, .int r3])), (a1, .inr (9, [.ref a6, .ref a7, .ref a8, .ref a9, .ref a10, .ref a11, .ref a12, .ref a13, .ref a14, .int (iI x3), .int (iI x4), .int (iI x5), .int (iI x6), .int (iI x7), .int (iI x8), .int (iI x9), .int (iI x10), .int (iI x11)])), (a2, .inl (T 0, 9, .inl f0)), (a3, .inl (T 0, 9, .inl (cI f1))), (a4, .inl (T 0, 9, .inl (cI f2))), (a5, .inl (T 0, 3, .inl f3)), (a7, .inl (T 0, 9, .inl (cI f4))), (a8, .inl (T 0, 9, .inl (cI f5))), (a10, .inl (T 0, 9, .inl (cI f6))), (a14, .inl (T 0, 3, .inl (cI f7)))] sz) (qI D [(a0, .inr (7, [.ref a2, .ref a3, .ref a4, .ref a5, .int r0, .int r1, .int r2, .int r3])), (a1, .inr (9, [.ref a6, .ref a7, .ref a8, .ref a9, .ref a10, .ref a11, .ref a12, .ref a13, .ref a14, .int (iI x3), .int (iI x4), .int (iI x5), .int (iI x6), .int (iI x7), .int (iI x8), .int (iI x9), .int (iI x10), .int (iI x11)])), (a2, .inl (T 0, 9, .inl f0)), (a3, .inl (T 0, 9, .inl (cI f1))), (a4, .inl (T 0, 9, .inl (cI f2))), (a5, .inl (T 0, 3, .inl f3)), (a7, .inl (T 0, 9, .inl (cI f4))), (a8, .inl (T 0, 9, .inl (cI f5))), (a10, .inl (T 0, 9, .inl (cI f6))), (a14, .inl (T 0, 3, .inl (cI f7)))] sz (fun (v : Int32) (u : Int) => iI u = v ∧ (-2147483648) ≤ u ∧ u ≤ 2147483647) (fun u => [(a0, .inr (7, [.ref a2, .ref a3, .ref a4, .ref a5, .int r0, .int r1, .int r2, .int r3])), (a1, .inr (9, [.ref a6, .ref a7, .ref a8, .ref a9, .ref a10, .ref a11, .ref a12, .ref a13, .ref a14, .int (iI x3), .int (iI x4), .int (iI x5), .int (iI x6), .int (iI x7), .int (iI x8), .int (iI x9), .int (iI x10), .int (iI x11)])), (a2, .inl (T 0, 9, .inl f0)), (a3, .inl (T 0, 9, .inl (cI f1))), (a4, .inl (T 0, 9, .inl (cI f2))), (a5, .inl (T 0, 3, .inl f3)), (a7, .inl (T 0, 9, .inl (cI f4))), (a8, .inl (T 0, 9, .inl (cI f5))), (a10, .inl (T 0, 9, .inl (cI f6))), (a14, .inl (T 0, 3, .inl (cI f7)))])) 0 0 (va_A [(a0, .inr (7, [.ref a2, .ref a3, .ref a4, .ref a5, .int r0, .int r1, .int r2, .int r3])), (a1, .inr (9, [.ref a6, .ref a7, .ref a8, .ref a9, .ref a10, .ref a11, .ref a12, .ref a13, .ref a14, .int (iI x3), .int (iI x4), .int (iI x5), .int (iI x6), .int (iI x7), .int (iI x8), .int (iI x9), .int (iI x10), .int (iI x11)])), (a2, .inl (T 0, 9, .inl f0)), (a3, .inl (T 0, 9, .inl (cI f1))), (a4, .inl (T 0, 9, .inl (cI f2))), (a5, .inl (T 0, 3, .inl f3)), (a7, .inl (T 0, 9, .inl (cI f4))), (a8, .inl (T 0, 9, .inl (cI f5))), (a10, .inl (T 0, 9, .inl (cI f6))), (a14, .inl (T 0, 3, .inl (cI f7)))] sz) := by
  refine e_I (by decide) (Nat.le_of_ble_eq_true rfl) ?_
  intro p e s m args below meth c A Q ls M hin w ret hl
  have hx := M.1.1
  have hb := M.1.2.1
  have hl : lv_has ls 5 [(0, .ref a0), (1, .ref a1), (2, .int (iI x0)), (3, .int (iI x1)), (4, .int (iI x2))] := hl
  refine lv_aload_n hx hb dX7_whyNotDoUp_0 rfl (lv_at hl 0 rfl) ?_
  refine r_get (v := .ref a5) M w 0 3 clX7 rfl (by decide) G227 rfl rfl dX7_whyNotDoUp_1 ?_
  refine lv_iload_n hx hb dX7_whyNotDoUp_4 rfl (lv_at hl 2 rfl) ?_
  refine r_iald (v := _) M w 5 rfl (iI_in (by omega) (by omega) (by decide)) rfl dX7_whyNotDoUp_5 ?_
  refine b_any (fun z1 z1_a z1_b => ?_)
  refine lv_aload_n hx hb dX7_whyNotDoUp_6 rfl (lv_at hl 1 rfl) ?_
  refine r_getN (v := .ref a14) M w 1 8 clX9 rfl (by decide) N385 rfl rfl dX7_whyNotDoUp_7 ?_
  refine lv_iload_n hx hb dX7_whyNotDoUp_10 rfl (lv_at hl 2 rfl) ?_
  refine r_iald (v := iI (f7 x0)) M w 9 rfl (iI_in (by omega) (by omega) (by decide)) (cI_at (by omega) (by omega)) dX7_whyNotDoUp_11 ?_
  have hh2 : (-2147483648) ≤ (f7 x0) ∧ (f7 x0) ≤ 2147483647 := f7_h x0
  refine lv_icmp_lt (tgt := 19) hx hb dX7_whyNotDoUp_12 (by decide) (fun c_3 => ?_) (fun c_3 => ?_)
  · replace c_3 := (iI_lt (Int.le_trans (by decide) z1_a) (Int.le_trans z1_b (by decide)) (by omega) (by omega)).mp c_3
    refine lv_aload_n hx hb dX7_whyNotDoUp_19 rfl (lv_at hl 0 rfl) ?_
    refine lv_aload_n hx hb dX7_whyNotDoUp_20 rfl (lv_at hl 1 rfl) ?_
    refine lv_iload_n hx hb dX7_whyNotDoUp_21 rfl (lv_at hl 3 rfl) ?_
    refine lv_iload hx hb dX7_whyNotDoUp_22 (lv_at hl 4 rfl) ?_
    refine k_I (ce := 0) (sl := 0) (rest := []) (wr := [(a5, .inl (T 0, 3, .inl f3)), (a14, .inl (T 0, 3, .inl (cI f7)))]) (r_V (f := 1) [0, 1, 2, 3, 4, 6, 7, 8] M w V_HookedCity_State_62 G849 G17 (c223_X7_whyNotInto l D T _ a0 a1 x1 x2 a2 a3 a4 a5 r0 r1 r2 r3 a6 a7 a8 a9 a10 a11 a12 a13 a14 x3 x4 x5 x6 x7 x8 x9 x10 x11 f0 f1 f2 f4 f5 f6 x1_a x1_b x2_a x2_b x3_a x3_b x4_a x4_b x5_a x5_b x6_a x6_b x7_a x7_b x8_a x8_b x9_a x9_b x10_a x10_b x11_a x11_b f1_h f2_h f4_h f5_h f6_h) 0 clX7 rfl rfl (by decide) rfl hl.1 rfl (Nat.le_of_ble_eq_true rfl) dX7_whyNotDoUp_24 (by decide) (by decide) (by decide) (by decide)) w [0, 1, 2, 3, 4, 6, 7, 8] [5, 9] rfl rfl (by decide) (by decide) rfl rfl (fun v z4 H locs hp w => ?_)
    have hv : iI z4 = v := hp.1
    subst hv
    have z4_a : (-2147483648) ≤ z4 := hp.2.1
    have z4_b : z4 ≤ 2147483647 := hp.2.2
    have w : WD D A s.heap [(a5, .inl (T 0, 3, .inl f3)), (a14, .inl (T 0, 3, .inl (cI f7))), (a0, .inr (7, [.ref a2, .ref a3, .ref a4, .ref a5, .int r0, .int r1, .int r2, .int r3])), (a1, .inr (9, [.ref a6, .ref a7, .ref a8, .ref a9, .ref a10, .ref a11, .ref a12, .ref a13, .ref a14, .int (iI x3), .int (iI x4), .int (iI x5), .int (iI x6), .int (iI x7), .int (iI x8), .int (iI x9), .int (iI x10), .int (iI x11)])), (a2, .inl (T 0, 9, .inl f0)), (a3, .inl (T 0, 9, .inl (cI f1))), (a4, .inl (T 0, 9, .inl (cI f2))), (a7, .inl (T 0, 9, .inl (cI f4))), (a8, .inl (T 0, 9, .inl (cI f5))), (a10, .inl (T 0, 9, .inl (cI f6)))] H locs := w
    exact ret _ z4 _ _ _ _ _ [2, 3, 4, 5, 6, 0, 7, 8, 9, 1] dX7_whyNotDoUp_27 ⟨rfl, z4_a, z4_b⟩ w (by decide) rfl
  · replace c_3 : (f7 x0) ≤ z1 := Int.not_lt.mp (fun h => c_3 ((iI_lt (Int.le_trans (by decide) z1_a) (Int.le_trans z1_b (by decide)) (by omega) (by omega)).mpr h))
    refine lv_iconst (v := iI 1) hx hb dX7_whyNotDoUp_15 (by decide +kernel) ?_
    refine lv_goto (tgt := 27) hx hb dX7_whyNotDoUp_16 (by decide) ?_
    exact ret _ 1 _ _ _ _ _ [0, 1, 2, 3, 4, 5, 6, 7, 8, 9] dX7_whyNotDoUp_27 ⟨rfl, (show (-2147483648) ≤ 1 from by decide), (show (1 : Int) ≤ 2147483647 from by decide)⟩ w (by decide) rfl
set_option maxRecDepth 100000 in
set_option maxHeartbeats 4000000 in
theorem c225_X7_doUp (l : Launch) (D : va_G) (T : Nat → ClassId) (sz : Nat) (a0 : Nat) (x0 : Int) (x1 : Int) (x2 : Int) (a1 : Nat) (a2 : Nat) (a3 : Nat) (a4 : Nat) (r0 : Int32) (r1 : Int32) (r2 : Int32) (r3 : Int32) (f0 : Int → Int) (f1 : Int → Int) (f2 : Nat → Int32) (x0_a : 0 ≤ x0) (x0_b : x0 ≤ 2) (x1_a : 0 ≤ x1) (x1_b : x1 ≤ 8) (x2_a : 0 ≤ x2) (x2_b : x2 ≤ 8) (f0_h : rng (-1) 8 f0) (f1_h : rng (-1) 8 f1) : Met l yX7_doUp (Cond.code yX7_doUp cX7_doUp 4 none :: GW) (Rm 0 0 0) (cPre [.ref a0, .int (iI x0), .int (iI x1), .int (iI x2)] D T [(a0, .inr (7, [.ref a1, .ref a2, .ref a3, .ref a4, .int r0, .int r1, .int r2, .int r3])), (a2, .inl (T 0, 9, .inl (cI f0))), (a3, .inl (T 0, 9, .inl (cI f1))), (a4, .inl (T 0, 3, .inl f2))] sz) (qV D [(a0, .inr (7, [.ref a1, .ref a2, .ref a3, .ref a4, .int r0, .int r1, .int r2, .int r3])), (a2, .inl (T 0, 9, .inl (cI f0))), (a3, .inl (T 0, 9, .inl (cI f1))), (a4, .inl (T 0, 3, .inl f2))] sz (fun (u : Int32 × (Int → Int) × (Int → Int) × (Nat → Int32)) => rng (-1) 8 u.2.1 ∧ rng (-1) 8 u.2.2.1) (fun u => [(a0, .inr (7, [.ref a1, .ref a2, .ref a3, .ref a4, .int r0, .int r1, .int u.1, .int r3])), (a2, .inl (T 0, 9, .inl (cI u.2.1))), (a3, .inl (T 0, 9, .inl (cI u.2.2.1))), (a4, .inl (T 0, 3, .inl u.2.2.2))])) 0 0 (va_A [(a0, .inr (7, [.ref a1, .ref a2, .ref a3, .ref a4, .int r0, .int r1, .int r2, .int r3])), (a2, .inl (T 0, 9, .inl (cI f0))), (a3, .inl (T 0, 9, .inl (cI f1))), (a4, .inl (T 0, 3, .inl f2))] sz) := by
  refine e_V (by decide) (Nat.le_of_ble_eq_true rfl) ?_
  intro p e s m args below meth c A Q ls M hin w ret hl
  have hx := M.1.1
  have hb := M.1.2.1
  have hl : lv_has ls 4 [(0, .ref a0), (1, .int (iI x0)), (2, .int (iI x1)), (3, .int (iI x2))] := hl
  refine lv_aload_n hx hb dX7_doUp_0 rfl (lv_at hl 0 rfl) ?_
  refine r_get (v := .ref a2) M w 0 1 clX7 rfl (by decide) G220 rfl rfl dX7_doUp_1 ?_
  refine lv_iload_n hx hb dX7_doUp_4 rfl (lv_at hl 2 rfl) ?_
  refine lv_iload_n hx hb dX7_doUp_5 rfl (lv_at hl 3 rfl) ?_
  refine r_iast (ws' := [(a0, .inr (7, [.ref a1, .ref a2, .ref a3, .ref a4, .int r0, .int r1, .int r2, .int r3])), (a2, .inl (T 0, 9, .inl (cI (upz f0 x1 x2)))), (a3, .inl (T 0, 9, .inl (cI f1))), (a4, .inl (T 0, 3, .inl f2))]) M w 1 rfl (iI_in (by omega) (by omega) (by decide)) (by rw [cI_up (by omega) (by omega)]; rfl) dX7_doUp_6 (fun H locs w => ?_)
  refine lv_aload_n hx hb dX7_doUp_7 rfl (lv_at hl 0 rfl) ?_
  refine r_get (v := .ref a3) M w 0 2 clX7 rfl (by decide) G224 rfl rfl dX7_doUp_8 ?_
  refine lv_iload_n hx hb dX7_doUp_11 rfl (lv_at hl 3 rfl) ?_
  refine lv_iload_n hx hb dX7_doUp_12 rfl (lv_at hl 2 rfl) ?_
  refine r_iast (ws' := [(a0, .inr (7, [.ref a1, .ref a2, .ref a3, .ref a4, .int r0, .int r1, .int r2, .int r3])), (a2, .inl (T 0, 9, .inl (cI (upz f0 x1 x2)))), (a3, .inl (T 0, 9, .inl (cI (upz f1 x2 x1)))), (a4, .inl (T 0, 3, .inl f2))]) M w 2 rfl (iI_in (by omega) (by omega) (by decide)) (by rw [cI_up (by omega) (by omega)]; rfl) dX7_doUp_13 (fun H locs w => ?_)
  refine lv_aload_n hx hb dX7_doUp_14 rfl (lv_at hl 0 rfl) ?_
  refine r_get (v := .ref a4) M w 0 3 clX7 rfl (by decide) G227 rfl rfl dX7_doUp_15 ?_
  refine lv_iload_n hx hb dX7_doUp_18 rfl (lv_at hl 1 rfl) ?_
  refine lv_dup2_11 hx hb dX7_doUp_19 rfl rfl ?_
  refine r_iald (v := _) M w 3 rfl (iI_in (by omega) (by omega) (by decide)) rfl dX7_doUp_20 ?_
  refine b_any (fun z1 z1_a z1_b => ?_)
  refine lv_iconst (v := iI 1) hx hb dX7_doUp_21 (by decide +kernel) ?_
  refine r_iadd (v := _) M rfl dX7_doUp_22 ?_
  refine b_any (fun z2 z2_a z2_b => ?_)
  refine r_iast (ws' := [(a0, .inr (7, [.ref a1, .ref a2, .ref a3, .ref a4, .int r0, .int r1, .int r2, .int r3])), (a2, .inl (T 0, 9, .inl (cI (upz f0 x1 x2)))), (a3, .inl (T 0, 9, .inl (cI (upz f1 x2 x1)))), (a4, .inl (T 0, 3, .inl (upd f2 (Int32.toNatClampNeg (iI x0)) (iI z2))))]) M w 3 rfl (iI_in (by omega) (by omega) (by decide)) rfl dX7_doUp_23 (fun H locs w => ?_)
  refine lv_aload_n hx hb dX7_doUp_24 rfl (lv_at hl 0 rfl) ?_
  refine lv_dup hx hb dX7_doUp_25 rfl ?_
  refine r_get (v := .int r2) M w 0 6 clX7 rfl (by decide) G234 rfl rfl dX7_doUp_26 ?_
  refine b_any (fun z3 z3_a z3_b => ?_)
  refine lv_iconst (v := iI 1) hx hb dX7_doUp_29 (by decide +kernel) ?_
  refine r_iadd (v := _) M rfl dX7_doUp_30 ?_
  refine b_any (fun z4 z4_a z4_b => ?_)
  refine r_put (ws' := [(a0, .inr (7, [.ref a1, .ref a2, .ref a3, .ref a4, .int r0, .int r1, .int (iI z4), .int r3])), (a2, .inl (T 0, 9, .inl (cI (upz f0 x1 x2)))), (a3, .inl (T 0, 9, .inl (cI (upz f1 x2 x1)))), (a4, .inl (T 0, 3, .inl (upd f2 (Int32.toNatClampNeg (iI x0)) (iI z2))))]) M w 0 6 clX7 rfl (by decide) G234 rfl rfl rfl rfl (Nat.le_of_ble_eq_true rfl) rfl dX7_doUp_31 (fun H locs w => ?_)
  exact ret ((iI z4), (upz f0 x1 x2), (upz f1 x2 x1), (upd f2 (Int32.toNatClampNeg (iI x0)) (iI z2))) _ _ _ _ _ [0, 1, 2, 3] dX7_doUp_34 ⟨(rng_up f0_h (by omega) (by omega)), (rng_up f1_h (by omega) (by omega))⟩ w (by decide) rfl
set_option maxRecDepth 100000 in
set_option maxHeartbeats 4000000 in
theorem c226_X7_whyNotLetGo (l : Launch) (D : va_G) (T : Nat → ClassId) (sz : Nat) (a0 : Nat) (a1 : Nat) (x0 : Int) (x1 : Int) (a2 : Nat) (a3 : Nat) (a4 : Nat) (a5 : Nat) (r0 : Int32) (r1 : Int32) (r2 : Int32) (r3 : Int32) (a6 : Nat) (a7 : Nat) (a8 : Nat) (a9 : Nat) (a10 : Nat) (a11 : Nat) (a12 : Nat) (a13 : Nat) (a14 : Nat) (x2 : Int) (x3 : Int) (x4 : Int) (x5 : Int) (x6 : Int) (x7 : Int) (x8 : Int) (x9 : Int) (x10 : Int) (f0 : Int → Int) (f1 : Nat → Int32) (f2 : Int → Int) (x0_a : 0 ≤ x0) (x0_b : x0 ≤ 2) (x1_a : 0 ≤ x1) (x1_b : x1 ≤ 8) (x2_a : 0 ≤ x2) (x2_b : x2 ≤ 9) (x3_a : 0 ≤ x3) (x3_b : x3 ≤ 3) (x4_a : 0 ≤ x4) (x4_b : x4 ≤ 900) (x5_a : (-2147483648) ≤ x5) (x5_b : x5 ≤ 2147483647) (x6_a : (-2147483648) ≤ x6) (x6_b : x6 ≤ 2147483647) (x7_a : (-2147483648) ≤ x7) (x7_b : x7 ≤ 2147483647) (x8_a : 0 ≤ x8) (x8_b : x8 ≤ 1) (x9_a : 0 ≤ x9) (x9_b : x9 ≤ 1) (x10_a : 0 ≤ x10) (x10_b : x10 ≤ 1) (f0_h : rng (-1) 8 f0) (f2_h : rng (-2147483648) 2147483647 f2) : Met l yX7_whyNotLetGo (Cond.code yX7_whyNotLetGo cX7_whyNotLetGo 4 (some .int) :: GW) (Rm 0 0 0) (cPre [.ref a0, .ref a1, .int (iI x0), .int (iI x1)] D T [(a0, .inr (7, [.ref a2, .ref a3, .ref a4, .ref a5, .int r0, .int r1, .int r2, .int r3])), (a1, .inr (9, [.ref a6, .ref a7, .ref a8, .ref a9, .ref a10, .ref a11, .ref a12, .ref a13, .ref a14, .int (iI x2), .int (iI x3), .int (iI x4), .int (iI x5), .int (iI x6), .int (iI x7), .int (iI x8), .int (iI x9), .int (iI x10)])), (a3, .inl (T 0, 9, .inl (cI f0))), (a5, .inl (T 0, 3, .inl f1)), (a14, .inl (T 0, 3, .inl (cI f2)))] sz) (qI D [(a0, .inr (7, [.ref a2, .ref a3, .ref a4, .ref a5, .int r0, .int r1, .int r2, .int r3])), (a1, .inr (9, [.ref a6, .ref a7, .ref a8, .ref a9, .ref a10, .ref a11, .ref a12, .ref a13, .ref a14, .int (iI x2), .int (iI x3), .int (iI x4), .int (iI x5), .int (iI x6), .int (iI x7), .int (iI x8), .int (iI x9), .int (iI x10)])), (a3, .inl (T 0, 9, .inl (cI f0))), (a5, .inl (T 0, 3, .inl f1)), (a14, .inl (T 0, 3, .inl (cI f2)))] sz (fun (v : Int32) (u : Int) => iI u = v ∧ (-2147483648) ≤ u ∧ u ≤ 2147483647) (fun u => [(a0, .inr (7, [.ref a2, .ref a3, .ref a4, .ref a5, .int r0, .int r1, .int r2, .int r3])), (a1, .inr (9, [.ref a6, .ref a7, .ref a8, .ref a9, .ref a10, .ref a11, .ref a12, .ref a13, .ref a14, .int (iI x2), .int (iI x3), .int (iI x4), .int (iI x5), .int (iI x6), .int (iI x7), .int (iI x8), .int (iI x9), .int (iI x10)])), (a3, .inl (T 0, 9, .inl (cI f0))), (a5, .inl (T 0, 3, .inl f1)), (a14, .inl (T 0, 3, .inl (cI f2)))])) 0 0 (va_A [(a0, .inr (7, [.ref a2, .ref a3, .ref a4, .ref a5, .int r0, .int r1, .int r2, .int r3])), (a1, .inr (9, [.ref a6, .ref a7, .ref a8, .ref a9, .ref a10, .ref a11, .ref a12, .ref a13, .ref a14, .int (iI x2), .int (iI x3), .int (iI x4), .int (iI x5), .int (iI x6), .int (iI x7), .int (iI x8), .int (iI x9), .int (iI x10)])), (a3, .inl (T 0, 9, .inl (cI f0))), (a5, .inl (T 0, 3, .inl f1)), (a14, .inl (T 0, 3, .inl (cI f2)))] sz) := by
  refine e_I (by decide) (Nat.le_of_ble_eq_true rfl) ?_
  intro p e s m args below meth c A Q ls M hin w ret hl
  have hx := M.1.1
  have hb := M.1.2.1
  have hl : lv_has ls 4 [(0, .ref a0), (1, .ref a1), (2, .int (iI x0)), (3, .int (iI x1))] := hl
  refine lv_aload_n hx hb dX7_whyNotLetGo_0 rfl (lv_at hl 0 rfl) ?_
  refine r_get (v := .ref a5) M w 0 3 clX7 rfl (by decide) G227 rfl rfl dX7_whyNotLetGo_1 ?_
  refine lv_iload_n hx hb dX7_whyNotLetGo_4 rfl (lv_at hl 2 rfl) ?_
  refine r_iald (v := _) M w 3 rfl (iI_in (by omega) (by omega) (by decide)) rfl dX7_whyNotLetGo_5 ?_
  refine b_any (fun z1 z1_a z1_b => ?_)
  refine lv_aload_n hx hb dX7_whyNotLetGo_6 rfl (lv_at hl 1 rfl) ?_
  refine r_getN (v := .ref a14) M w 1 8 clX9 rfl (by decide) N385 rfl rfl dX7_whyNotLetGo_7 ?_
  refine lv_iload_n hx hb dX7_whyNotLetGo_10 rfl (lv_at hl 2 rfl) ?_
  refine r_iald (v := iI (f2 x0)) M w 4 rfl (iI_in (by omega) (by omega) (by decide)) (cI_at (by omega) (by omega)) dX7_whyNotLetGo_11 ?_
  have hh2 : (-2147483648) ≤ (f2 x0) ∧ (f2 x0) ≤ 2147483647 := f2_h x0
  refine lv_icmp_lt (tgt := 17) hx hb dX7_whyNotLetGo_12 (by decide) (fun c_3 => ?_) (fun c_3 => ?_)
  · replace c_3 := (iI_lt (Int.le_trans (by decide) z1_a) (Int.le_trans z1_b (by decide)) (by omega) (by omega)).mp c_3
    refine lv_aload_n hx hb dX7_whyNotLetGo_17 rfl (lv_at hl 0 rfl) ?_
    refine r_get (v := .ref a3) M w 0 1 clX7 rfl (by decide) G220 rfl rfl dX7_whyNotLetGo_18 ?_
    refine lv_iload_n hx hb dX7_whyNotLetGo_21 rfl (lv_at hl 3 rfl) ?_
    refine r_iald (v := iI (f0 x1)) M w 2 rfl (iI_in (by omega) (by omega) (by decide)) (cI_at (by omega) (by omega)) dX7_whyNotLetGo_22 ?_
    have hh4 : (-1) ≤ (f0 x1) ∧ (f0 x1) ≤ 8 := f0_h x1
    refine lv_iconst (v := iI (-1)) hx hb dX7_whyNotLetGo_23 (by decide +kernel) ?_
    refine lv_icmp_ne (tgt := 31) hx hb dX7_whyNotLetGo_24 (by decide) (fun c_5 => ?_) (fun c_5 => ?_)
    · replace c_5 : ¬ (f0 x1) = (-1) := fun h => c_5 ((iI_eq (by omega) (by omega) (by decide) (by decide)).mpr h)
      refine lv_iconst (v := iI 0) hx hb dX7_whyNotLetGo_31 (by decide +kernel) ?_
      exact ret _ 0 _ _ _ _ _ [0, 1, 2, 3, 4] dX7_whyNotLetGo_32 ⟨rfl, (show (-2147483648) ≤ 0 from by decide), (show (0 : Int) ≤ 2147483647 from by decide)⟩ w (by decide) rfl
    · replace c_5 := (iI_eq (by omega) (by omega) (by decide) (by decide)).mp c_5
      refine lv_iconst (v := iI 2) hx hb dX7_whyNotLetGo_27 (by decide +kernel) ?_
      refine lv_goto (tgt := 32) hx hb dX7_whyNotLetGo_28 (by decide) ?_
      exact ret _ 2 _ _ _ _ _ [0, 1, 2, 3, 4] dX7_whyNotLetGo_32 ⟨rfl, (show (-2147483648) ≤ 2 from by decide), (show (2 : Int) ≤ 2147483647 from by decide)⟩ w (by decide) rfl
  · replace c_3 : (f2 x0) ≤ z1 := Int.not_lt.mp (fun h => c_3 ((iI_lt (Int.le_trans (by decide) z1_a) (Int.le_trans z1_b (by decide)) (by omega) (by omega)).mpr h))
    refine lv_iconst (v := iI 1) hx hb dX7_whyNotLetGo_15 (by decide +kernel) ?_
    exact ret _ 1 _ _ _ _ _ [0, 1, 2, 3, 4] dX7_whyNotLetGo_16 ⟨rfl, (show (-2147483648) ≤ 1 from by decide), (show (1 : Int) ≤ 2147483647 from by decide)⟩ w (by decide) rfl
set_option maxRecDepth 100000 in
set_option maxHeartbeats 4000000 in
theorem c227_X7_takeOut (l : Launch) (D : va_G) (T : Nat → ClassId) (sz : Nat) (a0 : Nat) (x0 : Int) (a1 : Nat) (a2 : Nat) (a3 : Nat) (a4 : Nat) (r0 : Int32) (r1 : Int32) (r2 : Int32) (r3 : Int32) (f0 : Int → Int) (f1 : Int → Int) (x0_a : 0 ≤ x0) (x0_b : x0 ≤ 8) (f0_h : rng (-1) 8 f0) (f1_h : rng (-1) 8 f1) : Met l yX7_takeOut (Cond.code yX7_takeOut cX7_takeOut 3 none :: GW) (Rm 0 0 0) (cPre [.ref a0, .int (iI x0)] D T [(a0, .inr (7, [.ref a1, .ref a2, .ref a3, .ref a4, .int r0, .int r1, .int r2, .int r3])), (a2, .inl (T 0, 9, .inl (cI f0))), (a3, .inl (T 0, 9, .inl (cI f1)))] sz) (qV D [(a0, .inr (7, [.ref a1, .ref a2, .ref a3, .ref a4, .int r0, .int r1, .int r2, .int r3])), (a2, .inl (T 0, 9, .inl (cI f0))), (a3, .inl (T 0, 9, .inl (cI f1)))] sz (fun (u : (Int → Int) × (Int → Int)) => rng (-1) 8 u.1 ∧ rng (-1) 8 u.2) (fun u => [(a0, .inr (7, [.ref a1, .ref a2, .ref a3, .ref a4, .int r0, .int r1, .int r2, .int r3])), (a2, .inl (T 0, 9, .inl (cI u.1))), (a3, .inl (T 0, 9, .inl (cI u.2)))])) 0 0 (va_A [(a0, .inr (7, [.ref a1, .ref a2, .ref a3, .ref a4, .int r0, .int r1, .int r2, .int r3])), (a2, .inl (T 0, 9, .inl (cI f0))), (a3, .inl (T 0, 9, .inl (cI f1)))] sz) := by
  refine e_V (by decide) (Nat.le_of_ble_eq_true rfl) ?_
  intro p e s m args below meth c A Q ls M hin w ret hl
  have hx := M.1.1
  have hb := M.1.2.1
  have hl : lv_has ls 3 [(0, .ref a0), (1, .int (iI x0))] := hl
  refine lv_aload_n hx hb dX7_takeOut_0 rfl (lv_at hl 0 rfl) ?_
  refine r_get (v := .ref a2) M w 0 1 clX7 rfl (by decide) G220 rfl rfl dX7_takeOut_1 ?_
  refine lv_iload_n hx hb dX7_takeOut_4 rfl (lv_at hl 1 rfl) ?_
  refine r_iald (v := iI (f0 x0)) M w 1 rfl (iI_in (by omega) (by omega) (by decide)) (cI_at (by omega) (by omega)) dX7_takeOut_5 ?_
  have hh1 : (-1) ≤ (f0 x0) ∧ (f0 x0) ≤ 8 := f0_h x0
  refine lv_istore_n (lv' := [(2, .int (iI (f0 x0))), (0, .ref a0), (1, .int (iI x0))]) hx hb dX7_takeOut_6 rfl hl (by decide) rfl (fun ls hl => ?_)
  refine lv_iload_n hx hb dX7_takeOut_7 rfl (lv_at hl 0 rfl) ?_
  refine lv_iconst (v := iI (-1)) hx hb dX7_takeOut_8 (by decide +kernel) ?_
  refine lv_icmp_eq (tgt := 26) hx hb dX7_takeOut_9 (by decide) (fun c_2 => ?_) (fun c_2 => ?_)
  · replace c_2 := (iI_eq (by omega) (by omega) (by decide) (by decide)).mp c_2
    exact ret (f0, f1) _ _ _ _ _ [0, 1, 2] dX7_takeOut_26 ⟨f0_h, f1_h⟩ w (by decide) rfl
  · replace c_2 : ¬ (f0 x0) = (-1) := fun h => c_2 ((iI_eq (by omega) (by omega) (by decide) (by decide)).mpr h)
    refine lv_aload_n hx hb dX7_takeOut_12 rfl (lv_at hl 1 rfl) ?_
    refine r_get (v := .ref a3) M w 0 2 clX7 rfl (by decide) G224 rfl rfl dX7_takeOut_13 ?_
    refine lv_iload_n hx hb dX7_takeOut_16 rfl (lv_at hl 0 rfl) ?_
    refine lv_iconst (v := iI (-1)) hx hb dX7_takeOut_17 (by decide +kernel) ?_
    refine r_iast (ws' := [(a0, .inr (7, [.ref a1, .ref a2, .ref a3, .ref a4, .int r0, .int r1, .int r2, .int r3])), (a2, .inl (T 0, 9, .inl (cI f0))), (a3, .inl (T 0, 9, .inl (cI (upz f1 (f0 x0) (-1)))))]) M w 2 rfl (iI_in (by omega) (by omega) (by decide)) (by rw [cI_up (by omega) (by omega)]; rfl) dX7_takeOut_18 (fun H locs w => ?_)
    refine lv_aload_n hx hb dX7_takeOut_19 rfl (lv_at hl 1 rfl) ?_
    refine r_get (v := .ref a2) M w 0 1 clX7 rfl (by decide) G220 rfl rfl dX7_takeOut_20 ?_
    refine lv_iload_n hx hb dX7_takeOut_23 rfl (lv_at hl 2 rfl) ?_
    refine lv_iconst (v := iI (-1)) hx hb dX7_takeOut_24 (by decide +kernel) ?_
    refine r_iast (ws' := [(a0, .inr (7, [.ref a1, .ref a2, .ref a3, .ref a4, .int r0, .int r1, .int r2, .int r3])), (a2, .inl (T 0, 9, .inl (cI (upz f0 x0 (-1))))), (a3, .inl (T 0, 9, .inl (cI (upz f1 (f0 x0) (-1)))))]) M w 1 rfl (iI_in (by omega) (by omega) (by decide)) (by rw [cI_up (by omega) (by omega)]; rfl) dX7_takeOut_25 (fun H locs w => ?_)
    exact ret ((upz f0 x0 (-1)), (upz f1 (f0 x0) (-1))) _ _ _ _ _ [0, 1, 2] dX7_takeOut_26 ⟨(rng_up f0_h (by omega) (by omega)), (rng_up f1_h (by omega) (by omega))⟩ w (by decide) rfl
set_option maxRecDepth 100000 in
set_option maxHeartbeats 4000000 in
theorem c228_X7_letGo (l : Launch) (D : va_G) (T : Nat → ClassId) (sz : Nat) (a0 : Nat) (x0 : Int) (x1 : Int) (a1 : Nat) (a2 : Nat) (a3 : Nat) (a4 : Nat) (r0 : Int32) (r1 : Int32) (r2 : Int32) (r3 : Int32) (f0 : Int → Int) (f1 : Int → Int) (f2 : Nat → Int32) (x0_a : 0 ≤ x0) (x0_b : x0 ≤ 2) (x1_a : 0 ≤ x1) (x1_b : x1 ≤ 8) (f0_h : rng (-1) 8 f0) (f1_h : rng (-1) 8 f1) : Met l yX7_letGo (Cond.code yX7_letGo cX7_letGo 3 none :: GW) (Rm 1 0 0) (cPre [.ref a0, .int (iI x0), .int (iI x1)] D T [(a0, .inr (7, [.ref a1, .ref a2, .ref a3, .ref a4, .int r0, .int r1, .int r2, .int r3])), (a2, .inl (T 0, 9, .inl (cI f0))), (a3, .inl (T 0, 9, .inl (cI f1))), (a4, .inl (T 0, 3, .inl f2))] sz) (qV D [(a0, .inr (7, [.ref a1, .ref a2, .ref a3, .ref a4, .int r0, .int r1, .int r2, .int r3])), (a2, .inl (T 0, 9, .inl (cI f0))), (a3, .inl (T 0, 9, .inl (cI f1))), (a4, .inl (T 0, 3, .inl f2))] sz (fun (u : (Int → Int) × (Int → Int) × (Nat → Int32)) => rng (-1) 8 u.1 ∧ rng (-1) 8 u.2.1) (fun u => [(a0, .inr (7, [.ref a1, .ref a2, .ref a3, .ref a4, .int r0, .int r1, .int r2, .int r3])), (a2, .inl (T 0, 9, .inl (cI u.1))), (a3, .inl (T 0, 9, .inl (cI u.2.1))), (a4, .inl (T 0, 3, .inl u.2.2))])) 0 0 (va_A [(a0, .inr (7, [.ref a1, .ref a2, .ref a3, .ref a4, .int r0, .int r1, .int r2, .int r3])), (a2, .inl (T 0, 9, .inl (cI f0))), (a3, .inl (T 0, 9, .inl (cI f1))), (a4, .inl (T 0, 3, .inl f2))] sz) := by
  refine e_V (by decide) (Nat.le_of_ble_eq_true rfl) ?_
  intro p e s m args below meth c A Q ls M hin w ret hl
  have hx := M.1.1
  have hb := M.1.2.1
  have hl : lv_has ls 3 [(0, .ref a0), (1, .int (iI x0)), (2, .int (iI x1))] := hl
  refine lv_aload_n hx hb dX7_letGo_0 rfl (lv_at hl 0 rfl) ?_
  refine lv_iload_n hx hb dX7_letGo_1 rfl (lv_at hl 2 rfl) ?_
  refine k_V (ce := 0) (sl := 0) (rest := []) (wr := [(a4, .inl (T 0, 3, .inl f2))]) (r_V (f := 0) [0, 1, 2] M w V_HookedCity_State_73 G886 G19 (c227_X7_takeOut l D T _ a0 x1 a1 a2 a3 a4 r0 r1 r2 r3 f0 f1 x1_a x1_b f0_h f1_h) 0 clX7 rfl rfl (by decide) rfl hl.1 rfl (Nat.le_of_ble_eq_true rfl) dX7_letGo_2 (by decide) (by decide) (by decide) (by decide)) w [0, 1, 2] [3] rfl rfl (by decide) (by decide) rfl rfl (fun u H locs hp w => ?_)
  obtain ⟨ff1, ff2⟩ := u
  have ff1_h : rng (-1) 8 ff1 := hp.1
  have ff2_h : rng (-1) 8 ff2 := hp.2
  have w : WD D A s.heap [(a4, .inl (T 0, 3, .inl f2)), (a0, .inr (7, [.ref a1, .ref a2, .ref a3, .ref a4, .int r0, .int r1, .int r2, .int r3])), (a2, .inl (T 0, 9, .inl (cI ff1))), (a3, .inl (T 0, 9, .inl (cI ff2)))] H locs := w
  refine lv_aload_n hx hb dX7_letGo_5 rfl (lv_at hl 0 rfl) ?_
  refine r_get (v := .ref a4) M w 1 3 clX7 rfl (by decide) G227 rfl rfl dX7_letGo_6 ?_
  refine lv_iload_n hx hb dX7_letGo_9 rfl (lv_at hl 1 rfl) ?_
  refine lv_dup2_11 hx hb dX7_letGo_10 rfl rfl ?_
  refine r_iald (v := _) M w 0 rfl (iI_in (by omega) (by omega) (by decide)) rfl dX7_letGo_11 ?_
  refine b_any (fun z3 z3_a z3_b => ?_)
  refine lv_iconst (v := iI 1) hx hb dX7_letGo_12 (by decide +kernel) ?_
  refine r_iadd (v := _) M rfl dX7_letGo_13 ?_
  refine b_any (fun z4 z4_a z4_b => ?_)
  refine r_iast (ws' := [(a4, .inl (T 0, 3, .inl (upd f2 (Int32.toNatClampNeg (iI x0)) (iI z4)))), (a0, .inr (7, [.ref a1, .ref a2, .ref a3, .ref a4, .int r0, .int r1, .int r2, .int r3])), (a2, .inl (T 0, 9, .inl (cI ff1))), (a3, .inl (T 0, 9, .inl (cI ff2)))]) M w 0 rfl (iI_in (by omega) (by omega) (by decide)) rfl dX7_letGo_14 (fun H locs w => ?_)
  exact ret (ff1, ff2, (upd f2 (Int32.toNatClampNeg (iI x0)) (iI z4))) _ _ _ _ _ [1, 2, 3, 0] dX7_letGo_15 ⟨ff1_h, ff2_h⟩ w (by decide) rfl
set_option maxRecDepth 100000 in
set_option maxHeartbeats 4000000 in
theorem c229_X7_whyNotSew (l : Launch) (D : va_G) (T : Nat → ClassId) (sz : Nat) (a0 : Nat) (a1 : Nat) (x0 : Int) (a2 : Nat) (a3 : Nat) (a4 : Nat) (a5 : Nat) (r0 : Int32) (r1 : Int32) (r2 : Int32) (r3 : Int32) (a6 : Nat) (a7 : Nat) (a8 : Nat) (a9 : Nat) (a10 : Nat) (a11 : Nat) (a12 : Nat) (a13 : Nat) (a14 : Nat) (x1 : Int) (x2 : Int) (x3 : Int) (x4 : Int) (x5 : Int) (x6 : Int) (x7 : Int) (x8 : Int) (x9 : Int) (f0 : Nat → Int32) (f1 : Int → Int) (x0_a : 0 ≤ x0) (x0_b : x0 ≤ 8) (x1_a : 0 ≤ x1) (x1_b : x1 ≤ 9) (x2_a : 0 ≤ x2) (x2_b : x2 ≤ 3) (x3_a : 0 ≤ x3) (x3_b : x3 ≤ 900) (x4_a : (-2147483648) ≤ x4) (x4_b : x4 ≤ 2147483647) (x5_a : (-2147483648) ≤ x5) (x5_b : x5 ≤ 2147483647) (x6_a : (-2147483648) ≤ x6) (x6_b : x6 ≤ 2147483647) (x7_a : 0 ≤ x7) (x7_b : x7 ≤ 1) (x8_a : 0 ≤ x8) (x8_b : x8 ≤ 1) (x9_a : 0 ≤ x9) (x9_b : x9 ≤ 1) (f1_h : rng (-2147483648) 2147483647 f1) : Met l yX7_whyNotSew (Cond.code yX7_whyNotSew cX7_whyNotSew 3 (some .int) :: GW) (Rm 0 0 0) (cPre [.ref a0, .ref a1, .int (iI x0)] D T [(a0, .inr (7, [.ref a2, .ref a3, .ref a4, .ref a5, .int r0, .int r1, .int r2, .int r3])), (a1, .inr (9, [.ref a6, .ref a7, .ref a8, .ref a9, .ref a10, .ref a11, .ref a12, .ref a13, .ref a14, .int (iI x1), .int (iI x2), .int (iI x3), .int (iI x4), .int (iI x5), .int (iI x6), .int (iI x7), .int (iI x8), .int (iI x9)])), (a2, .inl (T 0, 9, .inl f0)), (a9, .inl (T 0, 9, .inl (cI f1)))] sz) (qI D [(a0, .inr (7, [.ref a2, .ref a3, .ref a4, .ref a5, .int r0, .int r1, .int r2, .int r3])), (a1, .inr (9, [.ref a6, .ref a7, .ref a8, .ref a9, .ref a10, .ref a11, .ref a12, .ref a13, .ref a14, .int (iI x1), .int (iI x2), .int (iI x3), .int (iI x4), .int (iI x5), .int (iI x6), .int (iI x7), .int (iI x8), .int (iI x9)])), (a2, .inl (T 0, 9, .inl f0)), (a9, .inl (T 0, 9, .inl (cI f1)))] sz (fun (v : Int32) (u : Int) => iI u = v ∧ (-2147483648) ≤ u ∧ u ≤ 2147483647) (fun u => [(a0, .inr (7, [.ref a2, .ref a3, .ref a4, .ref a5, .int r0, .int r1, .int r2, .int r3])), (a1, .inr (9, [.ref a6, .ref a7, .ref a8, .ref a9, .ref a10, .ref a11, .ref a12, .ref a13, .ref a14, .int (iI x1), .int (iI x2), .int (iI x3), .int (iI x4), .int (iI x5), .int (iI x6), .int (iI x7), .int (iI x8), .int (iI x9)])), (a2, .inl (T 0, 9, .inl f0)), (a9, .inl (T 0, 9, .inl (cI f1)))])) 0 0 (va_A [(a0, .inr (7, [.ref a2, .ref a3, .ref a4, .ref a5, .int r0, .int r1, .int r2, .int r3])), (a1, .inr (9, [.ref a6, .ref a7, .ref a8, .ref a9, .ref a10, .ref a11, .ref a12, .ref a13, .ref a14, .int (iI x1), .int (iI x2), .int (iI x3), .int (iI x4), .int (iI x5), .int (iI x6), .int (iI x7), .int (iI x8), .int (iI x9)])), (a2, .inl (T 0, 9, .inl f0)), (a9, .inl (T 0, 9, .inl (cI f1)))] sz) := by
  refine e_I (by decide) (Nat.le_of_ble_eq_true rfl) ?_
  intro p e s m args below meth c A Q ls M hin w ret hl
  have hx := M.1.1
  have hb := M.1.2.1
  have hl : lv_has ls 3 [(0, .ref a0), (1, .ref a1), (2, .int (iI x0))] := hl
  refine lv_aload_n hx hb dX7_whyNotSew_0 rfl (lv_at hl 0 rfl) ?_
  refine r_get (v := .ref a2) M w 0 0 clX7 rfl (by decide) G215 rfl rfl dX7_whyNotSew_1 ?_
  refine lv_iload_n hx hb dX7_whyNotSew_4 rfl (lv_at hl 2 rfl) ?_
  refine r_iald (v := _) M w 2 rfl (iI_in (by omega) (by omega) (by decide)) rfl dX7_whyNotSew_5 ?_
  refine b_any (fun z1 z1_a z1_b => ?_)
  refine lv_aload_n hx hb dX7_whyNotSew_6 rfl (lv_at hl 1 rfl) ?_
  refine r_getN (v := .ref a9) M w 1 3 clX9 rfl (by decide) N373 rfl rfl dX7_whyNotSew_7 ?_
  refine lv_iload_n hx hb dX7_whyNotSew_10 rfl (lv_at hl 2 rfl) ?_
  refine r_iald (v := iI (f1 x0)) M w 3 rfl (iI_in (by omega) (by omega) (by decide)) (cI_at (by omega) (by omega)) dX7_whyNotSew_11 ?_
  have hh2 : (-2147483648) ≤ (f1 x0) ∧ (f1 x0) ≤ 2147483647 := f1_h x0
  refine lv_icmp_ne (tgt := 17) hx hb dX7_whyNotSew_12 (by decide) (fun c_3 => ?_) (fun c_3 => ?_)
  · replace c_3 : ¬ z1 = (f1 x0) := fun h => c_3 ((iI_eq (Int.le_trans (by decide) z1_a) (Int.le_trans z1_b (by decide)) (by omega) (by omega)).mpr h)
    refine lv_aload_n hx hb dX7_whyNotSew_17 rfl (lv_at hl 0 rfl) ?_
    refine r_get (v := .int r1) M w 0 5 clX7 rfl (by decide) G232 rfl rfl dX7_whyNotSew_18 ?_
    refine b_any (fun z4 z4_a z4_b => ?_)
    refine lv_if_ne (tgt := 28) hx hb dX7_whyNotSew_21 (by decide) (fun c_5 => ?_) (fun c_5 => ?_)
    · replace c_5 : ¬ z4 = 0 := fun h => c_5 ((iz_eq (Int.le_trans (by decide) z4_a) (Int.le_trans z4_b (by decide))).mpr h)
      refine lv_iconst (v := iI 0) hx hb dX7_whyNotSew_28 (by decide +kernel) ?_
      exact ret _ 0 _ _ _ _ _ [0, 1, 2, 3] dX7_whyNotSew_29 ⟨rfl, (show (-2147483648) ≤ 0 from by decide), (show (0 : Int) ≤ 2147483647 from by decide)⟩ w (by decide) rfl
    · replace c_5 := (iz_eq (Int.le_trans (by decide) z4_a) (Int.le_trans z4_b (by decide))).mp c_5
      refine lv_iconst (v := iI 2) hx hb dX7_whyNotSew_24 (by decide +kernel) ?_
      refine lv_goto (tgt := 29) hx hb dX7_whyNotSew_25 (by decide) ?_
      exact ret _ 2 _ _ _ _ _ [0, 1, 2, 3] dX7_whyNotSew_29 ⟨rfl, (show (-2147483648) ≤ 2 from by decide), (show (2 : Int) ≤ 2147483647 from by decide)⟩ w (by decide) rfl
  · replace c_3 := (iI_eq (Int.le_trans (by decide) z1_a) (Int.le_trans z1_b (by decide)) (by omega) (by omega)).mp c_3
    refine lv_iconst (v := iI 1) hx hb dX7_whyNotSew_15 (by decide +kernel) ?_
    exact ret _ 1 _ _ _ _ _ [0, 1, 2, 3] dX7_whyNotSew_16 ⟨rfl, (show (-2147483648) ≤ 1 from by decide), (show (1 : Int) ≤ 2147483647 from by decide)⟩ w (by decide) rfl
set_option maxRecDepth 100000 in
set_option maxHeartbeats 4000000 in
theorem c230_X7_sew (l : Launch) (D : va_G) (T : Nat → ClassId) (sz : Nat) (a0 : Nat) (a1 : Nat) (x0 : Int) (a2 : Nat) (a3 : Nat) (a4 : Nat) (a5 : Nat) (r0 : Int32) (r1 : Int32) (r2 : Int32) (r3 : Int32) (a6 : Nat) (a7 : Nat) (a8 : Nat) (a9 : Nat) (a10 : Nat) (a11 : Nat) (a12 : Nat) (a13 : Nat) (a14 : Nat) (x1 : Int) (x2 : Int) (x3 : Int) (x4 : Int) (x5 : Int) (x6 : Int) (x7 : Int) (x8 : Int) (x9 : Int) (f0 : Nat → Int32) (f1 : Int → Int) (x0_a : 0 ≤ x0) (x0_b : x0 ≤ 8) (x1_a : 0 ≤ x1) (x1_b : x1 ≤ 9) (x2_a : 0 ≤ x2) (x2_b : x2 ≤ 3) (x3_a : 0 ≤ x3) (x3_b : x3 ≤ 900) (x4_a : (-2147483648) ≤ x4) (x4_b : x4 ≤ 2147483647) (x5_a : (-2147483648) ≤ x5) (x5_b : x5 ≤ 2147483647) (x6_a : (-2147483648) ≤ x6) (x6_b : x6 ≤ 2147483647) (x7_a : 0 ≤ x7) (x7_b : x7 ≤ 1) (x8_a : 0 ≤ x8) (x8_b : x8 ≤ 1) (x9_a : 0 ≤ x9) (x9_b : x9 ≤ 1) (f1_h : rng (-2147483648) 2147483647 f1) : Met l yX7_sew (Cond.code yX7_sew cX7_sew 3 none :: GW) (Rm 0 0 0) (cPre [.ref a0, .ref a1, .int (iI x0)] D T [(a0, .inr (7, [.ref a2, .ref a3, .ref a4, .ref a5, .int r0, .int r1, .int r2, .int r3])), (a1, .inr (9, [.ref a6, .ref a7, .ref a8, .ref a9, .ref a10, .ref a11, .ref a12, .ref a13, .ref a14, .int (iI x1), .int (iI x2), .int (iI x3), .int (iI x4), .int (iI x5), .int (iI x6), .int (iI x7), .int (iI x8), .int (iI x9)])), (a2, .inl (T 0, 9, .inl f0)), (a9, .inl (T 0, 9, .inl (cI f1)))] sz) (qV D [(a0, .inr (7, [.ref a2, .ref a3, .ref a4, .ref a5, .int r0, .int r1, .int r2, .int r3])), (a1, .inr (9, [.ref a6, .ref a7, .ref a8, .ref a9, .ref a10, .ref a11, .ref a12, .ref a13, .ref a14, .int (iI x1), .int (iI x2), .int (iI x3), .int (iI x4), .int (iI x5), .int (iI x6), .int (iI x7), .int (iI x8), .int (iI x9)])), (a2, .inl (T 0, 9, .inl f0)), (a9, .inl (T 0, 9, .inl (cI f1)))] sz (fun (u : Int32 × (Nat → Int32)) => True) (fun u => [(a0, .inr (7, [.ref a2, .ref a3, .ref a4, .ref a5, .int r0, .int u.1, .int r2, .int r3])), (a1, .inr (9, [.ref a6, .ref a7, .ref a8, .ref a9, .ref a10, .ref a11, .ref a12, .ref a13, .ref a14, .int (iI x1), .int (iI x2), .int (iI x3), .int (iI x4), .int (iI x5), .int (iI x6), .int (iI x7), .int (iI x8), .int (iI x9)])), (a2, .inl (T 0, 9, .inl u.2)), (a9, .inl (T 0, 9, .inl (cI f1)))])) 0 0 (va_A [(a0, .inr (7, [.ref a2, .ref a3, .ref a4, .ref a5, .int r0, .int r1, .int r2, .int r3])), (a1, .inr (9, [.ref a6, .ref a7, .ref a8, .ref a9, .ref a10, .ref a11, .ref a12, .ref a13, .ref a14, .int (iI x1), .int (iI x2), .int (iI x3), .int (iI x4), .int (iI x5), .int (iI x6), .int (iI x7), .int (iI x8), .int (iI x9)])), (a2, .inl (T 0, 9, .inl f0)), (a9, .inl (T 0, 9, .inl (cI f1)))] sz) := by
  refine e_V (by decide) (Nat.le_of_ble_eq_true rfl) ?_
  intro p e s m args below meth c A Q ls M hin w ret hl
  have hx := M.1.1
  have hb := M.1.2.1
  have hl : lv_has ls 3 [(0, .ref a0), (1, .ref a1), (2, .int (iI x0))] := hl
  refine lv_aload_n hx hb dX7_sew_0 rfl (lv_at hl 0 rfl) ?_
  refine lv_dup hx hb dX7_sew_1 rfl ?_
  refine r_get (v := .int r1) M w 0 5 clX7 rfl (by decide) G232 rfl rfl dX7_sew_2 ?_
  refine b_any (fun z1 z1_a z1_b => ?_)
  refine lv_iconst (v := iI 1) hx hb dX7_sew_5 (by decide +kernel) ?_
  refine r_isub (v := _) M rfl dX7_sew_6 ?_
  refine b_any (fun z2 z2_a z2_b => ?_)
  refine r_put (ws' := [(a0, .inr (7, [.ref a2, .ref a3, .ref a4, .ref a5, .int r0, .int (iI z2), .int r2, .int r3])), (a1, .inr (9, [.ref a6, .ref a7, .ref a8, .ref a9, .ref a10, .ref a11, .ref a12, .ref a13, .ref a14, .int (iI x1), .int (iI x2), .int (iI x3), .int (iI x4), .int (iI x5), .int (iI x6), .int (iI x7), .int (iI x8), .int (iI x9)])), (a2, .inl (T 0, 9, .inl f0)), (a9, .inl (T 0, 9, .inl (cI f1)))]) M w 0 5 clX7 rfl (by decide) G232 rfl rfl rfl rfl (Nat.le_of_ble_eq_true rfl) rfl dX7_sew_7 (fun H locs w => ?_)
  refine lv_aload_n hx hb dX7_sew_10 rfl (lv_at hl 0 rfl) ?_
  refine r_get (v := .ref a2) M w 0 0 clX7 rfl (by decide) G215 rfl rfl dX7_sew_11 ?_
  refine lv_iload_n hx hb dX7_sew_14 rfl (lv_at hl 2 rfl) ?_
  refine lv_aload_n hx hb dX7_sew_15 rfl (lv_at hl 1 rfl) ?_
  refine r_getN (v := .ref a9) M w 1 3 clX9 rfl (by decide) N373 rfl rfl dX7_sew_16 ?_
  refine lv_iload_n hx hb dX7_sew_19 rfl (lv_at hl 2 rfl) ?_
  refine r_iald (v := iI (f1 x0)) M w 3 rfl (iI_in (by omega) (by omega) (by decide)) (cI_at (by omega) (by omega)) dX7_sew_20 ?_
  have hh3 : (-2147483648) ≤ (f1 x0) ∧ (f1 x0) ≤ 2147483647 := f1_h x0
  refine r_iast (ws' := [(a0, .inr (7, [.ref a2, .ref a3, .ref a4, .ref a5, .int r0, .int (iI z2), .int r2, .int r3])), (a1, .inr (9, [.ref a6, .ref a7, .ref a8, .ref a9, .ref a10, .ref a11, .ref a12, .ref a13, .ref a14, .int (iI x1), .int (iI x2), .int (iI x3), .int (iI x4), .int (iI x5), .int (iI x6), .int (iI x7), .int (iI x8), .int (iI x9)])), (a2, .inl (T 0, 9, .inl (upd f0 (Int32.toNatClampNeg (iI x0)) (iI (f1 x0))))), (a9, .inl (T 0, 9, .inl (cI f1)))]) M w 2 rfl (iI_in (by omega) (by omega) (by decide)) rfl dX7_sew_21 (fun H locs w => ?_)
  exact ret ((iI z2), (upd f0 (Int32.toNatClampNeg (iI x0)) (iI (f1 x0)))) _ _ _ _ _ [0, 1, 2, 3] dX7_sew_22 trivial w (by decide) rfl
set_option maxRecDepth 100000 in
set_option maxHeartbeats 4000000 in
theorem c231_X9_wearsOn (l : Launch) (D : va_G) (T : Nat → ClassId) (sz : Nat) (a0 : Nat) (x0 : Int) (a1 : Nat) (a2 : Nat) (a3 : Nat) (a4 : Nat) (a5 : Nat) (a6 : Nat) (a7 : Nat) (a8 : Nat) (a9 : Nat) (x1 : Int) (x2 : Int) (x3 : Int) (x4 : Int) (x5 : Int) (x6 : Int) (x7 : Int) (x8 : Int) (x9 : Int) (x0_a : (-2147483648) ≤ x0) (x0_b : x0 ≤ 2147483647) (x1_a : 0 ≤ x1) (x1_b : x1 ≤ 9) (x2_a : 0 ≤ x2) (x2_b : x2 ≤ 3) (x3_a : 0 ≤ x3) (x3_b : x3 ≤ 900) (x4_a : (-2147483648) ≤ x4) (x4_b : x4 ≤ 2147483647) (x5_a : (-2147483648) ≤ x5) (x5_b : x5 ≤ 2147483647) (x6_a : (-2147483648) ≤ x6) (x6_b : x6 ≤ 2147483647) (x7_a : 0 ≤ x7) (x7_b : x7 ≤ 1) (x8_a : 0 ≤ x8) (x8_b : x8 ≤ 1) (x9_a : 0 ≤ x9) (x9_b : x9 ≤ 1) : Met l yX9_wearsOn (Cond.code yX9_wearsOn cX9_wearsOn 2 (some .boolean) :: GW) (Rm 0 0 0) (cPre [.ref a0, .int (iI x0)] D T [(a0, .inr (9, [.ref a1, .ref a2, .ref a3, .ref a4, .ref a5, .ref a6, .ref a7, .ref a8, .ref a9, .int (iI x1), .int (iI x2), .int (iI x3), .int (iI x4), .int (iI x5), .int (iI x6), .int (iI x7), .int (iI x8), .int (iI x9)]))] sz) (qI D [(a0, .inr (9, [.ref a1, .ref a2, .ref a3, .ref a4, .ref a5, .ref a6, .ref a7, .ref a8, .ref a9, .int (iI x1), .int (iI x2), .int (iI x3), .int (iI x4), .int (iI x5), .int (iI x6), .int (iI x7), .int (iI x8), .int (iI x9)]))] sz (fun (v : Int32) (u : Int) => iI u = v ∧ 0 ≤ u ∧ u ≤ 1) (fun u => [(a0, .inr (9, [.ref a1, .ref a2, .ref a3, .ref a4, .ref a5, .ref a6, .ref a7, .ref a8, .ref a9, .int (iI x1), .int (iI x2), .int (iI x3), .int (iI x4), .int (iI x5), .int (iI x6), .int (iI x7), .int (iI x8), .int (iI x9)]))])) 0 0 (va_A [(a0, .inr (9, [.ref a1, .ref a2, .ref a3, .ref a4, .ref a5, .ref a6, .ref a7, .ref a8, .ref a9, .int (iI x1), .int (iI x2), .int (iI x3), .int (iI x4), .int (iI x5), .int (iI x6), .int (iI x7), .int (iI x8), .int (iI x9)]))] sz) := by
  refine e_Z (by decide) (Nat.le_of_ble_eq_true rfl) ?_
  intro p e s m args below meth c A Q ls M hin w ret hl
  have hx := M.1.1
  have hb := M.1.2.1
  have hl : lv_has ls 2 [(0, .ref a0), (1, .int (iI x0))] := hl
  refine lv_iload_n hx hb dX9_wearsOn_0 rfl (lv_at hl 1 rfl) ?_
  refine lv_sipush (v := iI 400) hx hb dX9_wearsOn_1 (by decide +kernel) ?_
  refine lv_icmp_ge (tgt := 31) hx hb dX9_wearsOn_4 (by decide) (fun c_1 => ?_) (fun c_1 => ?_)
  · replace c_1 := (iI_le (by decide) (by decide) (Int.le_trans (by decide) x0_a) (Int.le_trans x0_b (by decide))).mp c_1
    refine lv_iconst (v := iI 0) hx hb dX9_wearsOn_31 (by decide +kernel) ?_
    exact ret _ 0 _ _ _ _ _ [0] dX9_wearsOn_32 (by decide +kernel) ⟨rfl, (show (0 : Int) ≤ 0 from by decide), (show (0 : Int) ≤ 1 from by decide)⟩ w (by decide) rfl
  · replace c_1 : x0 < 400 := Int.not_le.mp (fun h => c_1 ((iI_le (by decide) (by decide) (Int.le_trans (by decide) x0_a) (Int.le_trans x0_b (by decide))).mpr h))
    refine lv_aload_n hx hb dX9_wearsOn_7 rfl (lv_at hl 0 rfl) ?_
    refine r_get (v := .int (iI x5)) M w 0 13 clX9 rfl (by decide) G400 rfl rfl dX9_wearsOn_8 ?_
    refine lv_if_le (tgt := 31) hx hb dX9_wearsOn_11 (by decide) (fun c_2 => ?_) (fun c_2 => ?_)
    · replace c_2 := (iz_le (Int.le_trans (by decide) x5_a) (Int.le_trans x5_b (by decide))).mp c_2
      refine lv_iconst (v := iI 0) hx hb dX9_wearsOn_31 (by decide +kernel) ?_
      exact ret _ 0 _ _ _ _ _ [0] dX9_wearsOn_32 (by decide +kernel) ⟨rfl, (show (0 : Int) ≤ 0 from by decide), (show (0 : Int) ≤ 1 from by decide)⟩ w (by decide) rfl
    · replace c_2 : 0 < x5 := Int.not_le.mp (fun h => c_2 ((iz_le (Int.le_trans (by decide) x5_a) (Int.le_trans x5_b (by decide))).mpr h))
      refine lv_iload_n hx hb dX9_wearsOn_14 rfl (lv_at hl 1 rfl) ?_
      refine lv_aload_n hx hb dX9_wearsOn_15 rfl (lv_at hl 0 rfl) ?_
      refine r_get (v := .int (iI x5)) M w 0 13 clX9 rfl (by decide) G400 rfl rfl dX9_wearsOn_16 ?_
      refine r_irem (v := _) M rfl (iz_ne (Int.le_trans (by decide) x5_a) (Int.le_trans x5_b (by decide)) (Or.inr (by omega))) dX9_wearsOn_19 ?_
      refine b_any (fun z3 z3_a z3_b => ?_)
      refine lv_aload_n hx hb dX9_wearsOn_20 rfl (lv_at hl 0 rfl) ?_
      refine r_get (v := .int (iI x6)) M w 0 14 clX9 rfl (by decide) G402 rfl rfl dX9_wearsOn_21 ?_
      refine lv_icmp_ge (tgt := 31) hx hb dX9_wearsOn_24 (by decide) (fun c_4 => ?_) (fun c_4 => ?_)
      · replace c_4 := (iI_le (Int.le_trans (by decide) x6_a) (Int.le_trans x6_b (by decide)) (Int.le_trans (by decide) z3_a) (Int.le_trans z3_b (by decide))).mp c_4
        refine lv_iconst (v := iI 0) hx hb dX9_wearsOn_31 (by decide +kernel) ?_
        exact ret _ 0 _ _ _ _ _ [0] dX9_wearsOn_32 (by decide +kernel) ⟨rfl, (show (0 : Int) ≤ 0 from by decide), (show (0 : Int) ≤ 1 from by decide)⟩ w (by decide) rfl
      · replace c_4 : z3 < x6 := Int.not_le.mp (fun h => c_4 ((iI_le (Int.le_trans (by decide) x6_a) (Int.le_trans x6_b (by decide)) (Int.le_trans (by decide) z3_a) (Int.le_trans z3_b (by decide))).mpr h))
        refine lv_iconst (v := iI 1) hx hb dX9_wearsOn_27 (by decide +kernel) ?_
        refine lv_goto (tgt := 32) hx hb dX9_wearsOn_28 (by decide) ?_
        exact ret _ 1 _ _ _ _ _ [0] dX9_wearsOn_32 (by decide +kernel) ⟨rfl, (show (0 : Int) ≤ 1 from by decide), (show (1 : Int) ≤ 1 from by decide)⟩ w (by decide) rfl
set_option maxRecDepth 100000 in
set_option maxHeartbeats 4000000 in
theorem c232_X7_wear (l : Launch) (D : va_G) (T : Nat → ClassId) (sz : Nat) (a0 : Nat) (x0 : Int) (a1 : Nat) (a2 : Nat) (a3 : Nat) (a4 : Nat) (r0 : Int32) (r1 : Int32) (r2 : Int32) (r3 : Int32) (f0 : Nat → Int32) (f1 : Int → Int) (f2 : Int → Int) (x0_a : 0 ≤ x0) (x0_b : x0 ≤ 8) (f1_h : rng (-1) 8 f1) (f2_h : rng (-1) 8 f2) : Met l yX7_wear (Cond.code yX7_wear cX7_wear 3 none :: GW) (Rm 1 0 0) (cPre [.ref a0, .int (iI x0)] D T [(a0, .inr (7, [.ref a1, .ref a2, .ref a3, .ref a4, .int r0, .int r1, .int r2, .int r3])), (a1, .inl (T 0, 9, .inl f0)), (a2, .inl (T 0, 9, .inl (cI f1))), (a3, .inl (T 0, 9, .inl (cI f2)))] sz) (qV D [(a0, .inr (7, [.ref a1, .ref a2, .ref a3, .ref a4, .int r0, .int r1, .int r2, .int r3])), (a1, .inl (T 0, 9, .inl f0)), (a2, .inl (T 0, 9, .inl (cI f1))), (a3, .inl (T 0, 9, .inl (cI f2)))] sz (fun (u : Int32 × (Nat → Int32) × (Int → Int) × (Int → Int)) => rng (-1) 8 u.2.2.1 ∧ rng (-1) 8 u.2.2.2) (fun u => [(a0, .inr (7, [.ref a1, .ref a2, .ref a3, .ref a4, .int r0, .int r1, .int r2, .int u.1])), (a1, .inl (T 0, 9, .inl u.2.1)), (a2, .inl (T 0, 9, .inl (cI u.2.2.1))), (a3, .inl (T 0, 9, .inl (cI u.2.2.2)))])) 0 0 (va_A [(a0, .inr (7, [.ref a1, .ref a2, .ref a3, .ref a4, .int r0, .int r1, .int r2, .int r3])), (a1, .inl (T 0, 9, .inl f0)), (a2, .inl (T 0, 9, .inl (cI f1))), (a3, .inl (T 0, 9, .inl (cI f2)))] sz) := by
  refine e_V (by decide) (Nat.le_of_ble_eq_true rfl) ?_
  intro p e s m args below meth c A Q ls M hin w ret hl
  have hx := M.1.1
  have hb := M.1.2.1
  have hl : lv_has ls 3 [(0, .ref a0), (1, .int (iI x0))] := hl
  refine lv_aload_n hx hb dX7_wear_0 rfl (lv_at hl 0 rfl) ?_
  refine r_get (v := .ref a3) M w 0 2 clX7 rfl (by decide) G224 rfl rfl dX7_wear_1 ?_
  refine lv_iload_n hx hb dX7_wear_4 rfl (lv_at hl 1 rfl) ?_
  refine r_iald (v := iI (f2 x0)) M w 3 rfl (iI_in (by omega) (by omega) (by decide)) (cI_at (by omega) (by omega)) dX7_wear_5 ?_
  have hh1 : (-1) ≤ (f2 x0) ∧ (f2 x0) ≤ 8 := f2_h x0
  refine lv_istore_n (lv' := [(2, .int (iI (f2 x0))), (0, .ref a0), (1, .int (iI x0))]) hx hb dX7_wear_6 rfl hl (by decide) rfl (fun ls hl => ?_)
  refine lv_iload_n hx hb dX7_wear_7 rfl (lv_at hl 0 rfl) ?_
  refine lv_iconst (v := iI (-1)) hx hb dX7_wear_8 (by decide +kernel) ?_
  refine lv_icmp_ne (tgt := 13) hx hb dX7_wear_9 (by decide) (fun c_2 => ?_) (fun c_2 => ?_)
  · replace c_2 : ¬ (f2 x0) = (-1) := fun h => c_2 ((iI_eq (by omega) (by omega) (by decide) (by decide)).mpr h)
    refine lv_aload_n hx hb dX7_wear_13 rfl (lv_at hl 1 rfl) ?_
    refine r_get (v := .ref a1) M w 0 0 clX7 rfl (by decide) G215 rfl rfl dX7_wear_14 ?_
    refine lv_iload_n hx hb dX7_wear_17 rfl (lv_at hl 2 rfl) ?_
    refine lv_dup2_11 hx hb dX7_wear_18 rfl rfl ?_
    refine r_iald (v := _) M w 1 rfl (iI_in (by omega) (by omega) (by decide)) rfl dX7_wear_19 ?_
    refine b_any (fun z3 z3_a z3_b => ?_)
    refine lv_iconst (v := iI 1) hx hb dX7_wear_20 (by decide +kernel) ?_
    refine r_isub (v := _) M rfl dX7_wear_21 ?_
    refine b_any (fun z4 z4_a z4_b => ?_)
    refine r_iast (ws' := [(a0, .inr (7, [.ref a1, .ref a2, .ref a3, .ref a4, .int r0, .int r1, .int r2, .int r3])), (a1, .inl (T 0, 9, .inl (upd f0 (Int32.toNatClampNeg (iI x0)) (iI z4)))), (a2, .inl (T 0, 9, .inl (cI f1))), (a3, .inl (T 0, 9, .inl (cI f2)))]) M w 1 rfl (iI_in (by omega) (by omega) (by decide)) rfl dX7_wear_22 (fun H locs w => ?_)
    refine lv_aload_n hx hb dX7_wear_23 rfl (lv_at hl 1 rfl) ?_
    refine r_get (v := .ref a1) M w 0 0 clX7 rfl (by decide) G215 rfl rfl dX7_wear_24 ?_
    refine lv_iload_n hx hb dX7_wear_27 rfl (lv_at hl 2 rfl) ?_
    refine r_iald (v := _) M w 1 rfl (iI_in (by omega) (by omega) (by decide)) rfl dX7_wear_28 ?_
    refine b_any (fun z5 z5_a z5_b => ?_)
    refine lv_if_ne (tgt := 47) hx hb dX7_wear_29 (by decide) (fun c_6 => ?_) (fun c_6 => ?_)
    · replace c_6 : ¬ z5 = 0 := fun h => c_6 ((iz_eq (Int.le_trans (by decide) z5_a) (Int.le_trans z5_b (by decide))).mpr h)
      exact ret (r3, (upd f0 (Int32.toNatClampNeg (iI x0)) (iI z4)), f1, f2) _ _ _ _ _ [0, 1, 2, 3] dX7_wear_47 ⟨f1_h, f2_h⟩ w (by decide) rfl
    · replace c_6 := (iz_eq (Int.le_trans (by decide) z5_a) (Int.le_trans z5_b (by decide))).mp c_6
      refine lv_aload_n hx hb dX7_wear_32 rfl (lv_at hl 1 rfl) ?_
      refine lv_dup hx hb dX7_wear_33 rfl ?_
      refine r_get (v := .int r3) M w 0 7 clX7 rfl (by decide) G236 rfl rfl dX7_wear_34 ?_
      refine b_any (fun z7 z7_a z7_b => ?_)
      refine lv_iconst (v := iI 1) hx hb dX7_wear_37 (by decide +kernel) ?_
      refine r_iadd (v := _) M rfl dX7_wear_38 ?_
      refine b_any (fun z8 z8_a z8_b => ?_)
      refine r_put (ws' := [(a0, .inr (7, [.ref a1, .ref a2, .ref a3, .ref a4, .int r0, .int r1, .int r2, .int (iI z8)])), (a1, .inl (T 0, 9, .inl (upd f0 (Int32.toNatClampNeg (iI x0)) (iI z4)))), (a2, .inl (T 0, 9, .inl (cI f1))), (a3, .inl (T 0, 9, .inl (cI f2)))]) M w 0 7 clX7 rfl (by decide) G236 rfl rfl rfl rfl (Nat.le_of_ble_eq_true rfl) rfl dX7_wear_39 (fun H locs w => ?_)
      refine lv_aload_n hx hb dX7_wear_42 rfl (lv_at hl 1 rfl) ?_
      refine lv_iload_n hx hb dX7_wear_43 rfl (lv_at hl 0 rfl) ?_
      refine k_V (ce := 0) (sl := 0) (rest := []) (wr := [(a1, .inl (T 0, 9, .inl (upd f0 (Int32.toNatClampNeg (iI x0)) (iI z4))))]) (r_V (f := 0) [0, 2, 3] M w V_HookedCity_State_73 G886 G19 (c227_X7_takeOut l D T _ a0 (f2 x0) a1 a2 a3 a4 r0 r1 r2 (iI z8) f1 f2 (by omega) (by omega) f1_h f2_h) 0 clX7 rfl rfl (by decide) rfl hl.1 rfl (Nat.le_of_ble_eq_true rfl) dX7_wear_44 (by decide) (by decide) (by decide) (by decide)) w [0, 2, 3] [1] rfl rfl (by decide) (by decide) rfl rfl (fun u H locs hp w => ?_)
      obtain ⟨ff9, ff10⟩ := u
      have ff9_h : rng (-1) 8 ff9 := hp.1
      have ff10_h : rng (-1) 8 ff10 := hp.2
      have w : WD D A s.heap [(a1, .inl (T 0, 9, .inl (upd f0 (Int32.toNatClampNeg (iI x0)) (iI z4)))), (a0, .inr (7, [.ref a1, .ref a2, .ref a3, .ref a4, .int r0, .int r1, .int r2, .int (iI z8)])), (a2, .inl (T 0, 9, .inl (cI ff9))), (a3, .inl (T 0, 9, .inl (cI ff10)))] H locs := w
      exact ret ((iI z8), (upd f0 (Int32.toNatClampNeg (iI x0)) (iI z4)), ff9, ff10) _ _ _ _ _ [1, 0, 2, 3] dX7_wear_47 ⟨ff9_h, ff10_h⟩ w (by decide) rfl
  · replace c_2 := (iI_eq (by omega) (by omega) (by decide) (by decide)).mp c_2
    exact ret (r3, f0, f1, f2) _ _ _ _ _ [0, 1, 2, 3] dX7_wear_12 ⟨f1_h, f2_h⟩ w (by decide) rfl
set_option maxRecDepth 100000 in
set_option maxHeartbeats 4000000 in
theorem c233_X7_passDay (l : Launch) (D : va_G) (T : Nat → ClassId) (sz : Nat) (a0 : Nat) (a1 : Nat) (a2 : Nat) (a3 : Nat) (a4 : Nat) (a5 : Nat) (r0 : Int32) (r1 : Int32) (r2 : Int32) (r3 : Int32) (a6 : Nat) (a7 : Nat) (a8 : Nat) (a9 : Nat) (a10 : Nat) (a11 : Nat) (a12 : Nat) (a13 : Nat) (a14 : Nat) (x0 : Int) (x1 : Int) (x2 : Int) (x3 : Int) (x4 : Int) (x5 : Int) (x6 : Int) (x7 : Int) (x8 : Int) (f0 : Nat → Int32) (f1 : Int → Int) (f2 : Int → Int) (f3 : Nat → Int32) (x0_a : 0 ≤ x0) (x0_b : x0 ≤ 9) (x1_a : 0 ≤ x1) (x1_b : x1 ≤ 3) (x2_a : 0 ≤ x2) (x2_b : x2 ≤ 900) (x3_a : (-2147483648) ≤ x3) (x3_b : x3 ≤ 2147483647) (x4_a : (-2147483648) ≤ x4) (x4_b : x4 ≤ 2147483647) (x5_a : (-2147483648) ≤ x5) (x5_b : x5 ≤ 2147483647) (x6_a : 0 ≤ x6) (x6_b : x6 ≤ 1) (x7_a : 0 ≤ x7) (x7_b : x7 ≤ 1) (x8_a : 0 ≤ x8) (x8_b : x8 ≤ 1) (f1_h : rng (-1) 8 f1) (f2_h : rng (-1) 8 f2) : Met l yX7_passDay (Cond.code yX7_passDay cX7_passDay 3 none :: GW) (Rm 2 0 0) (cPre [.ref a0, .ref a1] D T [(a0, .inr (7, [.ref a2, .ref a3, .ref a4, .ref a5, .int r0, .int r1, .int r2, .int r3])), (a1, .inr (9, [.ref a6, .ref a7, .ref a8, .ref a9, .ref a10, .ref a11, .ref a12, .ref a13, .ref a14, .int (iI x0), .int (iI x1), .int (iI x2), .int (iI x3), .int (iI x4), .int (iI x5), .int (iI x6), .int (iI x7), .int (iI x8)])), (a2, .inl (T 0, 9, .inl f0)), (a3, .inl (T 0, 9, .inl (cI f1))), (a4, .inl (T 0, 9, .inl (cI f2))), (a5, .inl (T 0, 3, .inl f3))] sz) (qV D [(a0, .inr (7, [.ref a2, .ref a3, .ref a4, .ref a5, .int r0, .int r1, .int r2, .int r3])), (a1, .inr (9, [.ref a6, .ref a7, .ref a8, .ref a9, .ref a10, .ref a11, .ref a12, .ref a13, .ref a14, .int (iI x0), .int (iI x1), .int (iI x2), .int (iI x3), .int (iI x4), .int (iI x5), .int (iI x6), .int (iI x7), .int (iI x8)])), (a2, .inl (T 0, 9, .inl f0)), (a3, .inl (T 0, 9, .inl (cI f1))), (a4, .inl (T 0, 9, .inl (cI f2))), (a5, .inl (T 0, 3, .inl f3))] sz (fun (u : Int32 × Int32 × (Nat → Int32) × (Int → Int) × (Int → Int) × (Nat → Int32)) => rng (-1) 8 u.2.2.2.1 ∧ rng (-1) 8 u.2.2.2.2.1) (fun u => [(a0, .inr (7, [.ref a2, .ref a3, .ref a4, .ref a5, .int u.1, .int r1, .int r2, .int u.2.1])), (a1, .inr (9, [.ref a6, .ref a7, .ref a8, .ref a9, .ref a10, .ref a11, .ref a12, .ref a13, .ref a14, .int (iI x0), .int (iI x1), .int (iI x2), .int (iI x3), .int (iI x4), .int (iI x5), .int (iI x6), .int (iI x7), .int (iI x8)])), (a2, .inl (T 0, 9, .inl u.2.2.1)), (a3, .inl (T 0, 9, .inl (cI u.2.2.2.1))), (a4, .inl (T 0, 9, .inl (cI u.2.2.2.2.1))), (a5, .inl (T 0, 3, .inl u.2.2.2.2.2))])) 0 0 (va_A [(a0, .inr (7, [.ref a2, .ref a3, .ref a4, .ref a5, .int r0, .int r1, .int r2, .int r3])), (a1, .inr (9, [.ref a6, .ref a7, .ref a8, .ref a9, .ref a10, .ref a11, .ref a12, .ref a13, .ref a14, .int (iI x0), .int (iI x1), .int (iI x2), .int (iI x3), .int (iI x4), .int (iI x5), .int (iI x6), .int (iI x7), .int (iI x8)])), (a2, .inl (T 0, 9, .inl f0)), (a3, .inl (T 0, 9, .inl (cI f1))), (a4, .inl (T 0, 9, .inl (cI f2))), (a5, .inl (T 0, 3, .inl f3))] sz) := by
  refine e_V (by decide) (Nat.le_of_ble_eq_true rfl) ?_
  intro p e s m args below meth c A Q ls M hin w ret hl
  have hx := M.1.1
  have hb := M.1.2.1
  have hl : lv_has ls 3 [(0, .ref a0), (1, .ref a1)] := hl
  refine lv_aload_n hx hb dX7_passDay_0 rfl (lv_at hl 1 rfl) ?_
  refine lv_aload_n hx hb dX7_passDay_1 rfl (lv_at hl 0 rfl) ?_
  refine r_get (v := .int r0) M w 0 4 clX7 rfl (by decide) G229 rfl rfl dX7_passDay_2 ?_
  refine b_any (fun z1 z1_a z1_b => ?_)
  refine k_I (ce := 0) (sl := 0) (rest := []) (wr := [(a0, .inr (7, [.ref a2, .ref a3, .ref a4, .ref a5, .int r0, .int r1, .int r2, .int r3])), (a2, .inl (T 0, 9, .inl f0)), (a3, .inl (T 0, 9, .inl (cI f1))), (a4, .inl (T 0, 9, .inl (cI f2))), (a5, .inl (T 0, 3, .inl f3))]) (r_V (f := 0) [1] M w V_HookedCity_State_81 G832 G833 (c231_X9_wearsOn l D T _ a1 z1 a6 a7 a8 a9 a10 a11 a12 a13 a14 x0 x1 x2 x3 x4 x5 x6 x7 x8 z1_a z1_b x0_a x0_b x1_a x1_b x2_a x2_b x3_a x3_b x4_a x4_b x5_a x5_b x6_a x6_b x7_a x7_b x8_a x8_b) 1 clX9 rfl rfl (by decide) rfl hl.1 rfl (Nat.le_of_ble_eq_true rfl) dX7_passDay_5 (by decide) (by decide) (by decide) (by decide)) w [1] [0, 2, 3, 4, 5] rfl rfl (by decide) (by decide) rfl rfl (fun v z2 H locs hp w => ?_)
  have hv : iI z2 = v := hp.1
  subst hv
  have z2_a : 0 ≤ z2 := hp.2.1
  have z2_b : z2 ≤ 1 := hp.2.2
  have w : WD D A s.heap [(a0, .inr (7, [.ref a2, .ref a3, .ref a4, .ref a5, .int r0, .int r1, .int r2, .int r3])), (a2, .inl (T 0, 9, .inl f0)), (a3, .inl (T 0, 9, .inl (cI f1))), (a4, .inl (T 0, 9, .inl (cI f2))), (a5, .inl (T 0, 3, .inl f3)), (a1, .inr (9, [.ref a6, .ref a7, .ref a8, .ref a9, .ref a10, .ref a11, .ref a12, .ref a13, .ref a14, .int (iI x0), .int (iI x1), .int (iI x2), .int (iI x3), .int (iI x4), .int (iI x5), .int (iI x6), .int (iI x7), .int (iI x8)]))] H locs := w
  refine lv_if_eq (tgt := 32) hx hb dX7_passDay_8 (by decide) (fun c_3 => ?_) (fun c_3 => ?_)
  · replace c_3 := (iz_eq (Int.le_trans (by decide) z2_a) (Int.le_trans z2_b (by decide))).mp c_3
    refine lv_aload_n hx hb dX7_passDay_32 rfl (lv_at hl 0 rfl) ?_
    refine lv_dup hx hb dX7_passDay_33 rfl ?_
    refine r_get (v := .int r0) M w 0 4 clX7 rfl (by decide) G229 rfl rfl dX7_passDay_34 ?_
    refine b_any (fun z4 z4_a z4_b => ?_)
    refine lv_iconst (v := iI 1) hx hb dX7_passDay_37 (by decide +kernel) ?_
    refine r_iadd (v := _) M rfl dX7_passDay_38 ?_
    refine b_any (fun z5 z5_a z5_b => ?_)
    refine r_put (ws' := [(a0, .inr (7, [.ref a2, .ref a3, .ref a4, .ref a5, .int (iI z5), .int r1, .int r2, .int r3])), (a2, .inl (T 0, 9, .inl f0)), (a3, .inl (T 0, 9, .inl (cI f1))), (a4, .inl (T 0, 9, .inl (cI f2))), (a5, .inl (T 0, 3, .inl f3)), (a1, .inr (9, [.ref a6, .ref a7, .ref a8, .ref a9, .ref a10, .ref a11, .ref a12, .ref a13, .ref a14, .int (iI x0), .int (iI x1), .int (iI x2), .int (iI x3), .int (iI x4), .int (iI x5), .int (iI x6), .int (iI x7), .int (iI x8)]))]) M w 0 4 clX7 rfl (by decide) G229 rfl rfl rfl rfl (Nat.le_of_ble_eq_true rfl) rfl dX7_passDay_39 (fun H locs w => ?_)
    refine lv_aload_n hx hb dX7_passDay_42 rfl (lv_at hl 0 rfl) ?_
    refine r_get (v := .ref a5) M w 0 3 clX7 rfl (by decide) G227 rfl rfl dX7_passDay_43 ?_
    refine lv_iconst (v := iI 0) hx hb dX7_passDay_46 (by decide +kernel) ?_
    refine k_V (ce := 0) (sl := 0) (rest := []) (wr := [(a0, .inr (7, [.ref a2, .ref a3, .ref a4, .ref a5, .int (iI z5), .int r1, .int r2, .int r3])), (a2, .inl (T 0, 9, .inl f0)), (a3, .inl (T 0, 9, .inl (cI f1))), (a4, .inl (T 0, 9, .inl (cI f2))), (a1, .inr (9, [.ref a6, .ref a7, .ref a8, .ref a9, .ref a10, .ref a11, .ref a12, .ref a13, .ref a14, .int (iI x0), .int (iI x1), .int (iI x2), .int (iI x3), .int (iI x4), .int (iI x5), .int (iI x6), .int (iI x7), .int (iI x8)]))]) (r_S (f := 0) [4] M w V_HookedCity_State_50 G290 (c218_J7_fill_53178 l D T _ a5 0 f3 (by decide) (by decide)) rfl (by decide) rfl hl.1 rfl (Nat.le_of_ble_eq_true rfl) dX7_passDay_47 (by decide) (by decide) (by decide) (by decide)) w [4] [0, 1, 2, 3, 5] rfl rfl (by decide) (by decide) rfl rfl (fun ff6 H locs hp w => ?_)
    have w : WD D A s.heap [(a0, .inr (7, [.ref a2, .ref a3, .ref a4, .ref a5, .int (iI z5), .int r1, .int r2, .int r3])), (a2, .inl (T 0, 9, .inl f0)), (a3, .inl (T 0, 9, .inl (cI f1))), (a4, .inl (T 0, 9, .inl (cI f2))), (a1, .inr (9, [.ref a6, .ref a7, .ref a8, .ref a9, .ref a10, .ref a11, .ref a12, .ref a13, .ref a14, .int (iI x0), .int (iI x1), .int (iI x2), .int (iI x3), .int (iI x4), .int (iI x5), .int (iI x6), .int (iI x7), .int (iI x8)])), (a5, .inl (T 0, 3, .inl ff6))] H locs := w
    exact ret ((iI z5), r3, f0, f1, f2, ff6) _ _ _ _ _ [0, 4, 1, 2, 3, 5] dX7_passDay_50 ⟨f1_h, f2_h⟩ w (by decide) rfl
  · replace c_3 : ¬ z2 = 0 := fun h => c_3 ((iz_eq (Int.le_trans (by decide) z2_a) (Int.le_trans z2_b (by decide))).mpr h)
    refine lv_iconst (v := iI 0) hx hb dX7_passDay_11 (by decide +kernel) ?_
    refine lv_istore_n (lv' := [(2, .int (iI 0)), (0, .ref a0), (1, .ref a1)]) hx hb dX7_passDay_12 rfl hl (by decide) rfl (fun ls hl => ?_)
    have loop1 : ∀ (k1 : Nat) (fr7 : Int32) (ff8 : Nat → Int32) (ff9 : Int → Int) (ff10 : Int → Int) (z11 : Int) (H : Heap) (locs : List Loc) (ls : Array Slot), rng (-1) 8 ff9 → rng (-1) 8 ff10 → 0 ≤ z11 → z11 ≤ 9 → ((x0 - z11) : Int).toNat < k1 → WD D A s.heap [(a0, .inr (7, [.ref a2, .ref a3, .ref a4, .ref a5, .int r0, .int r1, .int r2, .int fr7])), (a2, .inl (T 0, 9, .inl ff8)), (a3, .inl (T 0, 9, .inl (cI ff9))), (a4, .inl (T 0, 9, .inl (cI ff10))), (a5, .inl (T 0, 3, .inl f3)), (a1, .inr (9, [.ref a6, .ref a7, .ref a8, .ref a9, .ref a10, .ref a11, .ref a12, .ref a13, .ref a14, .int (iI x0), .int (iI x1), .int (iI x2), .int (iI x3), .int (iI x4), .int (iI x5), .int (iI x6), .int (iI x7), .int (iI x8)]))] H locs → lv_has ls 3 [(2, .int (iI z11)), (0, .ref a0), (1, .ref a1)] → W p l e (Rm 2 0 0) s m args below meth c H locs 0 0 Q (F0 m 13 ls []) := by
      intro k1
      induction k1 with
      | zero => intro fr7 ff8 ff9 ff10 z11 H locs ls ff9_h ff10_h z11_a z11_b hm; exact absurd hm (Nat.not_lt_zero _)
      | succ k1 ih1 =>
        intro fr7 ff8 ff9 ff10 z11 H locs ls ff9_h ff10_h z11_a z11_b hm1 w hl
        refine lv_iload_n hx hb dX7_passDay_13 rfl (lv_at hl 0 rfl) ?_
        refine lv_aload_n hx hb dX7_passDay_14 rfl (lv_at hl 2 rfl) ?_
        refine r_getN (v := .int (iI x0)) M w 5 9 clX9 rfl (by decide) N390 rfl rfl dX7_passDay_15 ?_
        refine lv_icmp_ge (tgt := 32) hx hb dX7_passDay_18 (by decide) (fun c_12 => ?_) (fun c_12 => ?_)
        · replace c_12 := (iI_le (Int.le_trans (by decide) x0_a) (Int.le_trans x0_b (by decide)) (Int.le_trans (by decide) z11_a) (Int.le_trans z11_b (by decide))).mp c_12
          refine lv_aload_n hx hb dX7_passDay_32 rfl (lv_at hl 1 rfl) ?_
          refine lv_dup hx hb dX7_passDay_33 rfl ?_
          refine r_get (v := .int r0) M w 0 4 clX7 rfl (by decide) G229 rfl rfl dX7_passDay_34 ?_
          refine b_any (fun z13 z13_a z13_b => ?_)
          refine lv_iconst (v := iI 1) hx hb dX7_passDay_37 (by decide +kernel) ?_
          refine r_iadd (v := _) M rfl dX7_passDay_38 ?_
          refine b_any (fun z14 z14_a z14_b => ?_)
          refine r_put (ws' := [(a0, .inr (7, [.ref a2, .ref a3, .ref a4, .ref a5, .int (iI z14), .int r1, .int r2, .int fr7])), (a2, .inl (T 0, 9, .inl ff8)), (a3, .inl (T 0, 9, .inl (cI ff9))), (a4, .inl (T 0, 9, .inl (cI ff10))), (a5, .inl (T 0, 3, .inl f3)), (a1, .inr (9, [.ref a6, .ref a7, .ref a8, .ref a9, .ref a10, .ref a11, .ref a12, .ref a13, .ref a14, .int (iI x0), .int (iI x1), .int (iI x2), .int (iI x3), .int (iI x4), .int (iI x5), .int (iI x6), .int (iI x7), .int (iI x8)]))]) M w 0 4 clX7 rfl (by decide) G229 rfl rfl rfl rfl (Nat.le_of_ble_eq_true rfl) rfl dX7_passDay_39 (fun H locs w => ?_)
          refine lv_aload_n hx hb dX7_passDay_42 rfl (lv_at hl 1 rfl) ?_
          refine r_get (v := .ref a5) M w 0 3 clX7 rfl (by decide) G227 rfl rfl dX7_passDay_43 ?_
          refine lv_iconst (v := iI 0) hx hb dX7_passDay_46 (by decide +kernel) ?_
          refine k_V (ce := 0) (sl := 0) (rest := []) (wr := [(a0, .inr (7, [.ref a2, .ref a3, .ref a4, .ref a5, .int (iI z14), .int r1, .int r2, .int fr7])), (a2, .inl (T 0, 9, .inl ff8)), (a3, .inl (T 0, 9, .inl (cI ff9))), (a4, .inl (T 0, 9, .inl (cI ff10))), (a1, .inr (9, [.ref a6, .ref a7, .ref a8, .ref a9, .ref a10, .ref a11, .ref a12, .ref a13, .ref a14, .int (iI x0), .int (iI x1), .int (iI x2), .int (iI x3), .int (iI x4), .int (iI x5), .int (iI x6), .int (iI x7), .int (iI x8)]))]) (r_S (f := 0) [4] M w V_HookedCity_State_50 G290 (c218_J7_fill_53178 l D T _ a5 0 f3 (by decide) (by decide)) rfl (by decide) rfl hl.1 rfl (Nat.le_of_ble_eq_true rfl) dX7_passDay_47 (by decide) (by decide) (by decide) (by decide)) w [4] [0, 1, 2, 3, 5] rfl rfl (by decide) (by decide) rfl rfl (fun ff15 H locs hp w => ?_)
          have w : WD D A s.heap [(a0, .inr (7, [.ref a2, .ref a3, .ref a4, .ref a5, .int (iI z14), .int r1, .int r2, .int fr7])), (a2, .inl (T 0, 9, .inl ff8)), (a3, .inl (T 0, 9, .inl (cI ff9))), (a4, .inl (T 0, 9, .inl (cI ff10))), (a1, .inr (9, [.ref a6, .ref a7, .ref a8, .ref a9, .ref a10, .ref a11, .ref a12, .ref a13, .ref a14, .int (iI x0), .int (iI x1), .int (iI x2), .int (iI x3), .int (iI x4), .int (iI x5), .int (iI x6), .int (iI x7), .int (iI x8)])), (a5, .inl (T 0, 3, .inl ff15))] H locs := w
          exact ret ((iI z14), fr7, ff8, ff9, ff10, ff15) _ _ _ _ _ [0, 4, 1, 2, 3, 5] dX7_passDay_50 ⟨ff9_h, ff10_h⟩ w (by decide) rfl
        · replace c_12 : z11 < x0 := Int.not_le.mp (fun h => c_12 ((iI_le (Int.le_trans (by decide) x0_a) (Int.le_trans x0_b (by decide)) (Int.le_trans (by decide) z11_a) (Int.le_trans z11_b (by decide))).mpr h))
          refine lv_aload_n hx hb dX7_passDay_21 rfl (lv_at hl 1 rfl) ?_
          refine lv_iload_n hx hb dX7_passDay_22 rfl (lv_at hl 0 rfl) ?_
          refine k_V (ce := 0) (sl := 0) (rest := []) (wr := [(a5, .inl (T 0, 3, .inl f3)), (a1, .inr (9, [.ref a6, .ref a7, .ref a8, .ref a9, .ref a10, .ref a11, .ref a12, .ref a13, .ref a14, .int (iI x0), .int (iI x1), .int (iI x2), .int (iI x3), .int (iI x4), .int (iI x5), .int (iI x6), .int (iI x7), .int (iI x8)]))]) (r_V (f := 1) [0, 1, 2, 3] M w V_HookedCity_State_88 G915 G21 (c232_X7_wear l D T _ a0 z11 a2 a3 a4 a5 r0 r1 r2 fr7 ff8 ff9 ff10 (by omega) (by omega) ff9_h ff10_h) 0 clX7 rfl rfl (by decide) rfl hl.1 rfl (Nat.le_of_ble_eq_true rfl) dX7_passDay_23 (by decide) (by decide) (by decide) (by decide)) w [0, 1, 2, 3] [4, 5] rfl rfl (by decide) (by decide) rfl rfl (fun u H locs hp w => ?_)
          obtain ⟨fr16, ff17, ff18, ff19⟩ := u
          have ff18_h : rng (-1) 8 ff18 := hp.1
          have ff19_h : rng (-1) 8 ff19 := hp.2
          have w : WD D A s.heap [(a5, .inl (T 0, 3, .inl f3)), (a1, .inr (9, [.ref a6, .ref a7, .ref a8, .ref a9, .ref a10, .ref a11, .ref a12, .ref a13, .ref a14, .int (iI x0), .int (iI x1), .int (iI x2), .int (iI x3), .int (iI x4), .int (iI x5), .int (iI x6), .int (iI x7), .int (iI x8)])), (a0, .inr (7, [.ref a2, .ref a3, .ref a4, .ref a5, .int r0, .int r1, .int r2, .int fr16])), (a2, .inl (T 0, 9, .inl ff17)), (a3, .inl (T 0, 9, .inl (cI ff18))), (a4, .inl (T 0, 9, .inl (cI ff19)))] H locs := w
          refine lv_iinc (v := iI (z11 + 1)) (lv' := [(2, .int (iI (z11 + 1))), (0, .ref a0), (1, .ref a1)]) hx hb dX7_passDay_26 hl (k := 0) rfl (ii_inc (by decide +kernel)) (by decide) rfl (fun ls hl => ?_)
          refine lv_goto (tgt := 13) hx hb dX7_passDay_29 (by decide) ?_
          exact ih1 fr16 ff17 ff18 ff19 (z11 + 1) _ _ _ ff18_h ff19_h (by omega) (by omega) (by omega) (w.sub [2, 3, 4, 5, 0, 1] (by decide) rfl) (lv_sub hl [0, 1, 2] rfl)
    exact loop1 (((x0 - 0) : Int).toNat + 1) r3 f0 f1 f2 0 _ _ _ f1_h f2_h (by decide) (by decide) (Nat.lt_succ_self _) w (lv_sub hl [0, 1, 2] rfl)
set_option maxRecDepth 100000 in
set_option maxHeartbeats 4000000 in
theorem c234_X7_passDays (l : Launch) (D : va_G) (T : Nat → ClassId) (sz : Nat) (a0 : Nat) (a1 : Nat) (x0 : Int) (a2 : Nat) (a3 : Nat) (a4 : Nat) (a5 : Nat) (r0 : Int32) (r1 : Int32) (r2 : Int32) (r3 : Int32) (a6 : Nat) (a7 : Nat) (a8 : Nat) (a9 : Nat) (a10 : Nat) (a11 : Nat) (a12 : Nat) (a13 : Nat) (a14 : Nat) (x1 : Int) (x2 : Int) (x3 : Int) (x4 : Int) (x5 : Int) (x6 : Int) (x7 : Int) (x8 : Int) (x9 : Int) (f0 : Nat → Int32) (f1 : Int → Int) (f2 : Int → Int) (f3 : Nat → Int32) (x0_a : (-2147483648) ≤ x0) (x0_b : x0 ≤ 2147483647) (x1_a : 0 ≤ x1) (x1_b : x1 ≤ 9) (x2_a : 0 ≤ x2) (x2_b : x2 ≤ 3) (x3_a : 0 ≤ x3) (x3_b : x3 ≤ 900) (x4_a : (-2147483648) ≤ x4) (x4_b : x4 ≤ 2147483647) (x5_a : (-2147483648) ≤ x5) (x5_b : x5 ≤ 2147483647) (x6_a : (-2147483648) ≤ x6) (x6_b : x6 ≤ 2147483647) (x7_a : 0 ≤ x7) (x7_b : x7 ≤ 1) (x8_a : 0 ≤ x8) (x8_b : x8 ≤ 1) (x9_a : 0 ≤ x9) (x9_b : x9 ≤ 1) (f1_h : rng (-1) 8 f1) (f2_h : rng (-1) 8 f2) : Met l yX7_passDays (Cond.code yX7_passDays cX7_passDays 4 (some .int) :: GW) (Rm 3 0 0) (cPre [.ref a0, .ref a1, .int (iI x0)] D T [(a0, .inr (7, [.ref a2, .ref a3, .ref a4, .ref a5, .int r0, .int r1, .int r2, .int r3])), (a1, .inr (9, [.ref a6, .ref a7, .ref a8, .ref a9, .ref a10, .ref a11, .ref a12, .ref a13, .ref a14, .int (iI x1), .int (iI x2), .int (iI x3), .int (iI x4), .int (iI x5), .int (iI x6), .int (iI x7), .int (iI x8), .int (iI x9)])), (a2, .inl (T 0, 9, .inl f0)), (a3, .inl (T 0, 9, .inl (cI f1))), (a4, .inl (T 0, 9, .inl (cI f2))), (a5, .inl (T 0, 3, .inl f3))] sz) (qI D [(a0, .inr (7, [.ref a2, .ref a3, .ref a4, .ref a5, .int r0, .int r1, .int r2, .int r3])), (a1, .inr (9, [.ref a6, .ref a7, .ref a8, .ref a9, .ref a10, .ref a11, .ref a12, .ref a13, .ref a14, .int (iI x1), .int (iI x2), .int (iI x3), .int (iI x4), .int (iI x5), .int (iI x6), .int (iI x7), .int (iI x8), .int (iI x9)])), (a2, .inl (T 0, 9, .inl f0)), (a3, .inl (T 0, 9, .inl (cI f1))), (a4, .inl (T 0, 9, .inl (cI f2))), (a5, .inl (T 0, 3, .inl f3))] sz (fun (v : Int32) (u : Int × Int32 × Int32 × (Nat → Int32) × (Int → Int) × (Int → Int) × (Nat → Int32)) => iI u.1 = v ∧ (-2147483648) ≤ u.1 ∧ u.1 ≤ 2147483647 ∧ rng (-1) 8 u.2.2.2.2.1 ∧ rng (-1) 8 u.2.2.2.2.2.1) (fun u => [(a0, .inr (7, [.ref a2, .ref a3, .ref a4, .ref a5, .int u.2.1, .int r1, .int r2, .int u.2.2.1])), (a1, .inr (9, [.ref a6, .ref a7, .ref a8, .ref a9, .ref a10, .ref a11, .ref a12, .ref a13, .ref a14, .int (iI x1), .int (iI x2), .int (iI x3), .int (iI x4), .int (iI x5), .int (iI x6), .int (iI x7), .int (iI x8), .int (iI x9)])), (a2, .inl (T 0, 9, .inl u.2.2.2.1)), (a3, .inl (T 0, 9, .inl (cI u.2.2.2.2.1))), (a4, .inl (T 0, 9, .inl (cI u.2.2.2.2.2.1))), (a5, .inl (T 0, 3, .inl u.2.2.2.2.2.2))])) 0 0 (va_A [(a0, .inr (7, [.ref a2, .ref a3, .ref a4, .ref a5, .int r0, .int r1, .int r2, .int r3])), (a1, .inr (9, [.ref a6, .ref a7, .ref a8, .ref a9, .ref a10, .ref a11, .ref a12, .ref a13, .ref a14, .int (iI x1), .int (iI x2), .int (iI x3), .int (iI x4), .int (iI x5), .int (iI x6), .int (iI x7), .int (iI x8), .int (iI x9)])), (a2, .inl (T 0, 9, .inl f0)), (a3, .inl (T 0, 9, .inl (cI f1))), (a4, .inl (T 0, 9, .inl (cI f2))), (a5, .inl (T 0, 3, .inl f3))] sz) := by
  refine e_I (by decide) (Nat.le_of_ble_eq_true rfl) ?_
  intro p e s m args below meth c A Q ls M hin w ret hl
  have hx := M.1.1
  have hb := M.1.2.1
  have hl : lv_has ls 4 [(0, .ref a0), (1, .ref a1), (2, .int (iI x0))] := hl
  refine lv_iconst (v := iI 0) hx hb dX7_passDays_0 (by decide +kernel) ?_
  refine lv_istore_n (lv' := [(3, .int (iI 0)), (0, .ref a0), (1, .ref a1), (2, .int (iI x0))]) hx hb dX7_passDays_1 rfl hl (by decide) rfl (fun ls hl => ?_)
  have loop1 : ∀ (k1 : Nat) (fr1 : Int32) (fr2 : Int32) (ff3 : Nat → Int32) (ff4 : Int → Int) (ff5 : Int → Int) (ff6 : Nat → Int32) (z7 : Int) (H : Heap) (locs : List Loc) (ls : Array Slot), rng (-1) 8 ff4 → rng (-1) 8 ff5 → 0 ≤ z7 → z7 ≤ 2147483647 → ((x0 - z7) : Int).toNat < k1 → WD D A s.heap [(a0, .inr (7, [.ref a2, .ref a3, .ref a4, .ref a5, .int fr1, .int r1, .int r2, .int fr2])), (a1, .inr (9, [.ref a6, .ref a7, .ref a8, .ref a9, .ref a10, .ref a11, .ref a12, .ref a13, .ref a14, .int (iI x1), .int (iI x2), .int (iI x3), .int (iI x4), .int (iI x5), .int (iI x6), .int (iI x7), .int (iI x8), .int (iI x9)])), (a2, .inl (T 0, 9, .inl ff3)), (a3, .inl (T 0, 9, .inl (cI ff4))), (a4, .inl (T 0, 9, .inl (cI ff5))), (a5, .inl (T 0, 3, .inl ff6))] H locs → lv_has ls 4 [(3, .int (iI z7)), (0, .ref a0), (1, .ref a1), (2, .int (iI x0))] → W p l e (Rm 3 0 0) s m args below meth c H locs 0 0 Q (F0 m 2 ls []) := by
    intro k1
    induction k1 with
    | zero => intro fr1 fr2 ff3 ff4 ff5 ff6 z7 H locs ls ff4_h ff5_h z7_a z7_b hm; exact absurd hm (Nat.not_lt_zero _)
    | succ k1 ih1 =>
      intro fr1 fr2 ff3 ff4 ff5 ff6 z7 H locs ls ff4_h ff5_h z7_a z7_b hm1 w hl
      refine lv_iload_n hx hb dX7_passDays_2 rfl (lv_at hl 0 rfl) ?_
      refine lv_iload_n hx hb dX7_passDays_3 rfl (lv_at hl 3 rfl) ?_
      refine lv_icmp_ge (tgt := 28) hx hb dX7_passDays_4 (by decide) (fun c_8 => ?_) (fun c_8 => ?_)
      · replace c_8 := (iI_le (Int.le_trans (by decide) x0_a) (Int.le_trans x0_b (by decide)) (Int.le_trans (by decide) z7_a) (Int.le_trans z7_b (by decide))).mp c_8
        refine lv_iload_n hx hb dX7_passDays_28 rfl (lv_at hl 0 rfl) ?_
        exact ret _ (z7, fr1, fr2, ff3, ff4, ff5, ff6) _ _ _ _ _ [0, 1, 2, 3, 4, 5] dX7_passDays_29 ⟨rfl, (show (-2147483648) ≤ z7 from by omega), (show z7 ≤ 2147483647 from by omega), ff4_h, ff5_h⟩ w (by decide) rfl
      · replace c_8 : z7 < x0 := Int.not_le.mp (fun h => c_8 ((iI_le (Int.le_trans (by decide) x0_a) (Int.le_trans x0_b (by decide)) (Int.le_trans (by decide) z7_a) (Int.le_trans z7_b (by decide))).mpr h))
        refine lv_aload_n hx hb dX7_passDays_7 rfl (lv_at hl 1 rfl) ?_
        refine r_get (v := .int fr1) M w 0 4 clX7 rfl (by decide) G229 rfl rfl dX7_passDays_8 ?_
        refine b_any (fun z9 z9_a z9_b => ?_)
        refine lv_sipush (v := iI 400) hx hb dX7_passDays_11 (by decide +kernel) ?_
        refine lv_icmp_ge (tgt := 28) hx hb dX7_passDays_14 (by decide) (fun c_10 => ?_) (fun c_10 => ?_)
        · replace c_10 := (iI_le (by decide) (by decide) (Int.le_trans (by decide) z9_a) (Int.le_trans z9_b (by decide))).mp c_10
          refine lv_iload_n hx hb dX7_passDays_28 rfl (lv_at hl 0 rfl) ?_
          exact ret _ (z7, fr1, fr2, ff3, ff4, ff5, ff6) _ _ _ _ _ [0, 1, 2, 3, 4, 5] dX7_passDays_29 ⟨rfl, (show (-2147483648) ≤ z7 from by omega), (show z7 ≤ 2147483647 from by omega), ff4_h, ff5_h⟩ w (by decide) rfl
        · replace c_10 : z9 < 400 := Int.not_le.mp (fun h => c_10 ((iI_le (by decide) (by decide) (Int.le_trans (by decide) z9_a) (Int.le_trans z9_b (by decide))).mpr h))
          refine lv_aload_n hx hb dX7_passDays_17 rfl (lv_at hl 1 rfl) ?_
          refine lv_aload_n hx hb dX7_passDays_18 rfl (lv_at hl 2 rfl) ?_
          refine k_V (ce := 0) (sl := 0) (rest := []) (wr := []) (r_V (f := 2) [0, 1, 2, 3, 4, 5] M w V_HookedCity_State_77 G910 G20 (c233_X7_passDay l D T _ a0 a1 a2 a3 a4 a5 fr1 r1 r2 fr2 a6 a7 a8 a9 a10 a11 a12 a13 a14 x1 x2 x3 x4 x5 x6 x7 x8 x9 ff3 ff4 ff5 ff6 x1_a x1_b x2_a x2_b x3_a x3_b x4_a x4_b x5_a x5_b x6_a x6_b x7_a x7_b x8_a x8_b x9_a x9_b ff4_h ff5_h) 0 clX7 rfl rfl (by decide) rfl hl.1 rfl (Nat.le_of_ble_eq_true rfl) dX7_passDays_19 (by decide) (by decide) (by decide) (by decide)) w [0, 1, 2, 3, 4, 5] [] rfl rfl (by decide) (by decide) rfl rfl (fun u H locs hp w => ?_)
          obtain ⟨fr11, fr12, ff13, ff14, ff15, ff16⟩ := u
          have ff14_h : rng (-1) 8 ff14 := hp.1
          have ff15_h : rng (-1) 8 ff15 := hp.2
          have w : WD D A s.heap [(a0, .inr (7, [.ref a2, .ref a3, .ref a4, .ref a5, .int fr11, .int r1, .int r2, .int fr12])), (a1, .inr (9, [.ref a6, .ref a7, .ref a8, .ref a9, .ref a10, .ref a11, .ref a12, .ref a13, .ref a14, .int (iI x1), .int (iI x2), .int (iI x3), .int (iI x4), .int (iI x5), .int (iI x6), .int (iI x7), .int (iI x8), .int (iI x9)])), (a2, .inl (T 0, 9, .inl ff13)), (a3, .inl (T 0, 9, .inl (cI ff14))), (a4, .inl (T 0, 9, .inl (cI ff15))), (a5, .inl (T 0, 3, .inl ff16))] H locs := w
          refine lv_iinc (v := iI (z7 + 1)) (lv' := [(3, .int (iI (z7 + 1))), (0, .ref a0), (1, .ref a1), (2, .int (iI x0))]) hx hb dX7_passDays_22 hl (k := 0) rfl (ii_inc (by decide +kernel)) (by decide) rfl (fun ls hl => ?_)
          refine lv_goto (tgt := 2) hx hb dX7_passDays_25 (by decide) ?_
          exact ih1 fr11 fr12 ff13 ff14 ff15 ff16 (z7 + 1) _ _ _ ff14_h ff15_h (by omega) (by omega) (by omega) w (lv_sub hl [0, 1, 2, 3] rfl)
  exact loop1 (((x0 - 0) : Int).toNat + 1) r0 r3 f0 f1 f2 f3 0 _ _ _ f1_h f2_h (by decide) (by decide) (Nat.lt_succ_self _) w (lv_sub hl [0, 1, 2, 3] rfl)
set_option maxRecDepth 100000 in
set_option maxHeartbeats 4000000 in
theorem c235_X7_nextSeed (l : Launch) (D : va_G) (T : Nat → ClassId) (sz : Nat) (x0 : Int) (x0_a : (-2147483648) ≤ x0) (x0_b : x0 ≤ 2147483647) : Met l yX7_nextSeed (Cond.code yX7_nextSeed cX7_nextSeed 1 (some .int) :: GW) (Rm 0 0 0) (cPre [.int (iI x0)] D T [] sz) (qI D [] sz (fun (v : Int32) (u : Int) => iI u = v ∧ (-2147483648) ≤ u ∧ u ≤ 2147483647) (fun u => [])) 0 0 (va_A [] sz) := by
  refine e_I (by decide) (Nat.le_of_ble_eq_true rfl) ?_
  intro p e s m args below meth c A Q ls M hin w ret hl
  have hx := M.1.1
  have hb := M.1.2.1
  have hl : lv_has ls 1 [(0, .int (iI x0))] := hl
  refine lv_iload_n hx hb dX7_nextSeed_0 rfl (lv_at hl 0 rfl) ?_
  refine lv_ldc (v := _) hx hb M.1.2.2.2.1 (M.1.2.2.2.2 _ G1147) dX7_nextSeed_1 ?_
  refine b_lit (z := 1103515245) (by decide +kernel) ?_
  refine r_imul (v := _) M rfl dX7_nextSeed_3 ?_
  refine b_any (fun z1 z1_a z1_b => ?_)
  refine lv_sipush (v := iI 12345) hx hb dX7_nextSeed_4 (by decide +kernel) ?_
  refine r_iadd (v := _) M rfl dX7_nextSeed_7 ?_
  refine b_any (fun z2 z2_a z2_b => ?_)
  exact ret _ z2 _ _ _ _ _ [] dX7_nextSeed_8 ⟨rfl, z2_a, z2_b⟩ w (by decide) rfl
set_option maxRecDepth 100000 in
set_option maxHeartbeats 4000000 in
theorem c236_X7_draw (l : Launch) (D : va_G) (T : Nat → ClassId) (sz : Nat) (x0 : Int) (x1 : Int) (x0_a : (-2147483648) ≤ x0) (x0_b : x0 ≤ 2147483647) (x1_a : 1 ≤ x1) (x1_b : x1 ≤ 2147483647) : Met l yX7_draw (Cond.code yX7_draw cX7_draw 2 (some .int) :: GW) (Rm 0 0 0) (cPre [.int (iI x0), .int (iI x1)] D T [] sz) (qI D [] sz (fun (v : Int32) (u : Int) => iI u = v ∧ 0 ≤ u ∧ u ≤ 2147483647 ∧ 0 ≤ ((x1 - u) - 1) ∧ ((0 < x1))) (fun u => [])) 0 0 (va_A [] sz) := by
  refine e_I (by decide) (Nat.le_of_ble_eq_true rfl) ?_
  intro p e s m args below meth c A Q ls M hin w ret hl
  have hx := M.1.1
  have hb := M.1.2.1
  have hl : lv_has ls 2 [(0, .int (iI x0)), (1, .int (iI x1))] := hl
  refine lv_iload_n hx hb dX7_draw_0 rfl (lv_at hl 1 rfl) ?_
  refine lv_if_le (tgt := 13) hx hb dX7_draw_1 (by decide) (fun c_1 => ?_) (fun c_1 => ?_)
  · replace c_1 := (iz_le (Int.le_trans (by decide) x1_a) (Int.le_trans x1_b (by decide))).mp c_1
    exfalso; omega
  · replace c_1 : 0 < x1 := Int.not_le.mp (fun h => c_1 ((iz_le (Int.le_trans (by decide) x1_a) (Int.le_trans x1_b (by decide))).mpr h))
    refine lv_iload_n hx hb dX7_draw_4 rfl (lv_at hl 0 rfl) ?_
    refine lv_bipush (v := iI 8) hx hb dX7_draw_5 (by decide +kernel) ?_
    refine r_iushr (v := _) M rfl dX7_draw_7 ?_
    refine b_rng (lo := 0) (hi := 16777215) (iushr_8 _) (fun z2 z2_a z2_b => ?_)
    refine lv_iload_n hx hb dX7_draw_8 rfl (lv_at hl 1 rfl) ?_
    refine r_irem (v := _) M rfl (iz_ne (Int.le_trans (by decide) x1_a) (Int.le_trans x1_b (by decide)) (Or.inr (by omega))) dX7_draw_9 ?_
    refine b_rng (lo := 0) (hi := (x1 - 1)) (irem_r (by omega) (by omega) (by omega) (by omega)) (fun z3 z3_a z3_b => ?_)
    refine lv_goto (tgt := 14) hx hb dX7_draw_10 (by decide) ?_
    exact ret _ z3 _ _ _ _ _ [] dX7_draw_14 ⟨rfl, (show 0 ≤ z3 from by omega), (show z3 ≤ 2147483647 from by omega), (show 0 ≤ ((x1 - z3) - 1) from by omega), c_1⟩ w (by decide) rfl
set_option maxRecDepth 100000 in
set_option maxHeartbeats 4000000 in
theorem c237_X7_drawAct (l : Launch) (D : va_G) (T : Nat → ClassId) (sz : Nat) (a0 : Nat) (a1 : Nat) (x0 : Int) (x1 : Int) (a2 : Nat) (a3 : Nat) (a4 : Nat) (a5 : Nat) (r0 : Int32) (r1 : Int32) (r2 : Int32) (r3 : Int32) (a6 : Nat) (a7 : Nat) (a8 : Nat) (a9 : Nat) (a10 : Nat) (a11 : Nat) (a12 : Nat) (a13 : Nat) (a14 : Nat) (x2 : Int) (x3 : Int) (x4 : Int) (x5 : Int) (x6 : Int) (x7 : Int) (x8 : Int) (x9 : Int) (x10 : Int) (f0 : Nat → Int32) (f1 : Int → Int) (f2 : Int → Int) (f3 : Nat → Int32) (f4 : Int → Int) (f5 : Int → Int) (f6 : Int → Int) (f7 : Int → Int) (x0_a : 0 ≤ x0) (x0_b : x0 ≤ 2) (x1_a : (-2147483648) ≤ x1) (x1_b : x1 ≤ 2147483647) (x2_a : 0 ≤ x2) (x2_b : x2 ≤ 9) (x3_a : 0 ≤ x3) (x3_b : x3 ≤ 3) (x4_a : 0 ≤ x4) (x4_b : x4 ≤ 900) (x5_a : (-2147483648) ≤ x5) (x5_b : x5 ≤ 2147483647) (x6_a : (-2147483648) ≤ x6) (x6_b : x6 ≤ 2147483647) (x7_a : (-2147483648) ≤ x7) (x7_b : x7 ≤ 2147483647) (x8_a : 0 ≤ x8) (x8_b : x8 ≤ 1) (x9_a : 0 ≤ x9) (x9_b : x9 ≤ 1) (x10_a : 0 ≤ x10) (x10_b : x10 ≤ 1) (f1_h : rng (-1) 8 f1) (f2_h : rng (-1) 8 f2) (f4_h : rng (-2147483648) 2147483647 f4) (f5_h : rng (-2147483648) 2147483647 f5) (f6_h : rng 0 511 f6) (f7_h : rng (-2147483648) 2147483647 f7) : Met l yX7_drawAct (Cond.code yX7_drawAct cX7_drawAct 8 (some .int) :: GW) (Rm 3 0 0) (cPre [.ref a0, .ref a1, .int (iI x0), .int (iI x1)] D T [(a0, .inr (7, [.ref a2, .ref a3, .ref a4, .ref a5, .int r0, .int r1, .int r2, .int r3])), (a1, .inr (9, [.ref a6, .ref a7, .ref a8, .ref a9, .ref a10, .ref a11, .ref a12, .ref a13, .ref a14, .int (iI x2), .int (iI x3), .int (iI x4), .int (iI x5), .int (iI x6), .int (iI x7), .int (iI x8), .int (iI x9), .int (iI x10)])), (a2, .inl (T 0, 9, .inl f0)), (a3, .inl (T 0, 9, .inl (cI f1))), (a4, .inl (T 0, 9, .inl (cI f2))), (a5, .inl (T 0, 3, .inl f3)), (a7, .inl (T 0, 9, .inl (cI f4))), (a8, .inl (T 0, 9, .inl (cI f5))), (a10, .inl (T 0, 9, .inl (cI f6))), (a14, .inl (T 0, 3, .inl (cI f7)))] sz) (qI D [(a0, .inr (7, [.ref a2, .ref a3, .ref a4, .ref a5, .int r0, .int r1, .int r2, .int r3])), (a1, .inr (9, [.ref a6, .ref a7, .ref a8, .ref a9, .ref a10, .ref a11, .ref a12, .ref a13, .ref a14, .int (iI x2), .int (iI x3), .int (iI x4), .int (iI x5), .int (iI x6), .int (iI x7), .int (iI x8), .int (iI x9), .int (iI x10)])), (a2, .inl (T 0, 9, .inl f0)), (a3, .inl (T 0, 9, .inl (cI f1))), (a4, .inl (T 0, 9, .inl (cI f2))), (a5, .inl (T 0, 3, .inl f3)), (a7, .inl (T 0, 9, .inl (cI f4))), (a8, .inl (T 0, 9, .inl (cI f5))), (a10, .inl (T 0, 9, .inl (cI f6))), (a14, .inl (T 0, 3, .inl (cI f7)))] sz (fun (v : Int32) (u : Int × Int32 × (Int → Int) × (Int → Int) × (Nat → Int32)) => iI u.1 = v ∧ (-2147483648) ≤ u.1 ∧ u.1 ≤ 2147483647 ∧ rng (-1) 8 u.2.2.1 ∧ rng (-1) 8 u.2.2.2.1) (fun u => [(a0, .inr (7, [.ref a2, .ref a3, .ref a4, .ref a5, .int r0, .int r1, .int u.2.1, .int r3])), (a1, .inr (9, [.ref a6, .ref a7, .ref a8, .ref a9, .ref a10, .ref a11, .ref a12, .ref a13, .ref a14, .int (iI x2), .int (iI x3), .int (iI x4), .int (iI x5), .int (iI x6), .int (iI x7), .int (iI x8), .int (iI x9), .int (iI x10)])), (a2, .inl (T 0, 9, .inl f0)), (a3, .inl (T 0, 9, .inl (cI u.2.2.1))), (a4, .inl (T 0, 9, .inl (cI u.2.2.2.1))), (a5, .inl (T 0, 3, .inl u.2.2.2.2)), (a7, .inl (T 0, 9, .inl (cI f4))), (a8, .inl (T 0, 9, .inl (cI f5))), (a10, .inl (T 0, 9, .inl (cI f6))), (a14, .inl (T 0, 3, .inl (cI f7)))])) 0 0 (va_A [(a0, .inr (7, [.ref a2, .ref a3, .ref a4, .ref a5, .int r0, .int r1, .int r2, .int r3])), (a1, .inr (9, [.ref a6, .ref a7, .ref a8, .ref a9, .ref a10, .ref a11, .ref a12, .ref a13, .ref a14, .int (iI x2), .int (iI x3), .int (iI x4), .int (iI x5), .int (iI x6), .int (iI x7), .int (iI x8), .int (iI x9), .int (iI x10)])), (a2, .inl (T 0, 9, .inl f0)), (a3, .inl (T 0, 9, .inl (cI f1))), (a4, .inl (T 0, 9, .inl (cI f2))), (a5, .inl (T 0, 3, .inl f3)), (a7, .inl (T 0, 9, .inl (cI f4))), (a8, .inl (T 0, 9, .inl (cI f5))), (a10, .inl (T 0, 9, .inl (cI f6))), (a14, .inl (T 0, 3, .inl (cI f7)))] sz) := by
  refine e_I (by decide) (Nat.le_of_ble_eq_true rfl) ?_
  intro p e s m args below meth c A Q ls M hin w ret hl
  have hx := M.1.1
  have hb := M.1.2.1
  have hl : lv_has ls 8 [(0, .ref a0), (1, .ref a1), (2, .int (iI x0)), (3, .int (iI x1))] := hl
  refine lv_iload_n hx hb dX7_drawAct_0 rfl (lv_at hl 3 rfl) ?_
  refine k_I (ce := 0) (sl := 0) (rest := []) (wr := [(a0, .inr (7, [.ref a2, .ref a3, .ref a4, .ref a5, .int r0, .int r1, .int r2, .int r3])), (a1, .inr (9, [.ref a6, .ref a7, .ref a8, .ref a9, .ref a10, .ref a11, .ref a12, .ref a13, .ref a14, .int (iI x2), .int (iI x3), .int (iI x4), .int (iI x5), .int (iI x6), .int (iI x7), .int (iI x8), .int (iI x9), .int (iI x10)])), (a2, .inl (T 0, 9, .inl f0)), (a3, .inl (T 0, 9, .inl (cI f1))), (a4, .inl (T 0, 9, .inl (cI f2))), (a5, .inl (T 0, 3, .inl f3)), (a7, .inl (T 0, 9, .inl (cI f4))), (a8, .inl (T 0, 9, .inl (cI f5))), (a10, .inl (T 0, 9, .inl (cI f6))), (a14, .inl (T 0, 3, .inl (cI f7)))]) (r_S (f := 0) [] M w V_HookedCity_State_97 G1145 (c235_X7_nextSeed l D T _ x1 x1_a x1_b) rfl (by decide) rfl hl.1 rfl (Nat.le_of_ble_eq_true rfl) dX7_drawAct_1 (by decide) (by decide) (by decide) (by decide)) w [] [0, 1, 2, 3, 4, 5, 6, 7, 8, 9] rfl rfl (by decide) (by decide) rfl rfl (fun v z1 H locs hp w => ?_)
  have hv : iI z1 = v := hp.1
  subst hv
  have z1_a : (-2147483648) ≤ z1 := hp.2.1
  have z1_b : z1 ≤ 2147483647 := hp.2.2
  have w : WD D A s.heap [(a0, .inr (7, [.ref a2, .ref a3, .ref a4, .ref a5, .int r0, .int r1, .int r2, .int r3])), (a1, .inr (9, [.ref a6, .ref a7, .ref a8, .ref a9, .ref a10, .ref a11, .ref a12, .ref a13, .ref a14, .int (iI x2), .int (iI x3), .int (iI x4), .int (iI x5), .int (iI x6), .int (iI x7), .int (iI x8), .int (iI x9), .int (iI x10)])), (a2, .inl (T 0, 9, .inl f0)), (a3, .inl (T 0, 9, .inl (cI f1))), (a4, .inl (T 0, 9, .inl (cI f2))), (a5, .inl (T 0, 3, .inl f3)), (a7, .inl (T 0, 9, .inl (cI f4))), (a8, .inl (T 0, 9, .inl (cI f5))), (a10, .inl (T 0, 9, .inl (cI f6))), (a14, .inl (T 0, 3, .inl (cI f7)))] H locs := w
  refine lv_istore (lv' := [(4, .int (iI z1)), (0, .ref a0), (1, .ref a1), (2, .int (iI x0)), (3, .int (iI x1))]) hx hb dX7_drawAct_4 hl (by decide) rfl (fun ls hl => ?_)
  refine lv_iload hx hb dX7_drawAct_6 (lv_at hl 0 rfl) ?_
  refine lv_iconst (v := iI 4) hx hb dX7_drawAct_8 (by decide +kernel) ?_
  refine k_I (ce := 0) (sl := 0) (rest := []) (wr := [(a0, .inr (7, [.ref a2, .ref a3, .ref a4, .ref a5, .int r0, .int r1, .int r2, .int r3])), (a1, .inr (9, [.ref a6, .ref a7, .ref a8, .ref a9, .ref a10, .ref a11, .ref a12, .ref a13, .ref a14, .int (iI x2), .int (iI x3), .int (iI x4), .int (iI x5), .int (iI x6), .int (iI x7), .int (iI x8), .int (iI x9), .int (iI x10)])), (a2, .inl (T 0, 9, .inl f0)), (a3, .inl (T 0, 9, .inl (cI f1))), (a4, .inl (T 0, 9, .inl (cI f2))), (a5, .inl (T 0, 3, .inl f3)), (a7, .inl (T 0, 9, .inl (cI f4))), (a8, .inl (T 0, 9, .inl (cI f5))), (a10, .inl (T 0, 9, .inl (cI f6))), (a14, .inl (T 0, 3, .inl (cI f7)))]) (r_S (f := 0) [] M w V_HookedCity_State_101 G1149 (c236_X7_draw l D T _ z1 4 z1_a z1_b (by decide) (by decide)) rfl (by decide) rfl hl.1 rfl (Nat.le_of_ble_eq_true rfl) dX7_drawAct_9 (by decide) (by decide) (by decide) (by decide)) w [] [0, 1, 2, 3, 4, 5, 6, 7, 8, 9] rfl rfl (by decide) (by decide) rfl rfl (fun v z2 H locs hp w => ?_)
  have hv : iI z2 = v := hp.1
  subst hv
  have z2_a : 0 ≤ z2 := hp.2.1
  have z2_b : z2 ≤ 2147483647 := hp.2.2.1
  have ee3 : 0 ≤ ((4 - z2) - 1) := hp.2.2.2.1
  have w : WD D A s.heap [(a0, .inr (7, [.ref a2, .ref a3, .ref a4, .ref a5, .int r0, .int r1, .int r2, .int r3])), (a1, .inr (9, [.ref a6, .ref a7, .ref a8, .ref a9, .ref a10, .ref a11, .ref a12, .ref a13, .ref a14, .int (iI x2), .int (iI x3), .int (iI x4), .int (iI x5), .int (iI x6), .int (iI x7), .int (iI x8), .int (iI x9), .int (iI x10)])), (a2, .inl (T 0, 9, .inl f0)), (a3, .inl (T 0, 9, .inl (cI f1))), (a4, .inl (T 0, 9, .inl (cI f2))), (a5, .inl (T 0, 3, .inl f3)), (a7, .inl (T 0, 9, .inl (cI f4))), (a8, .inl (T 0, 9, .inl (cI f5))), (a10, .inl (T 0, 9, .inl (cI f6))), (a14, .inl (T 0, 3, .inl (cI f7)))] H locs := w
  rcases hp.2.2.2.2 with c_4
  · refine lv_if_ne (tgt := 19) hx hb dX7_drawAct_12 (by decide) (fun c_5 => ?_) (fun c_5 => ?_)
    · replace c_5 : ¬ z2 = 0 := fun h => c_5 ((iz_eq (Int.le_trans (by decide) z2_a) (Int.le_trans z2_b (by decide))).mpr h)
      refine lv_iconst (v := iI 0) hx hb dX7_drawAct_19 (by decide +kernel) ?_
      refine lv_istore (lv' := [(5, .int (iI 0)), (4, .int (iI z1)), (0, .ref a0), (1, .ref a1), (2, .int (iI x0)), (3, .int (iI x1))]) hx hb dX7_drawAct_20 hl (by decide) rfl (fun ls hl => ?_)
      refine lv_aload_n hx hb dX7_drawAct_22 rfl (lv_at hl 3 rfl) ?_
      refine r_getN (v := .int (iI x2)) M w 1 9 clX9 rfl (by decide) N390 rfl rfl dX7_drawAct_23 ?_
      refine lv_if_ne (tgt := 32) hx hb dX7_drawAct_26 (by decide) (fun c_6 => ?_) (fun c_6 => ?_)
      · replace c_6 : ¬ x2 = 0 := fun h => c_6 ((iz_eq (Int.le_trans (by decide) x2_a) (Int.le_trans x2_b (by decide))).mpr h)
        refine lv_iload hx hb dX7_drawAct_32 (lv_at hl 1 rfl) ?_
        refine k_I (ce := 0) (sl := 0) (rest := []) (wr := [(a0, .inr (7, [.ref a2, .ref a3, .ref a4, .ref a5, .int r0, .int r1, .int r2, .int r3])), (a1, .inr (9, [.ref a6, .ref a7, .ref a8, .ref a9, .ref a10, .ref a11, .ref a12, .ref a13, .ref a14, .int (iI x2), .int (iI x3), .int (iI x4), .int (iI x5), .int (iI x6), .int (iI x7), .int (iI x8), .int (iI x9), .int (iI x10)])), (a2, .inl (T 0, 9, .inl f0)), (a3, .inl (T 0, 9, .inl (cI f1))), (a4, .inl (T 0, 9, .inl (cI f2))), (a5, .inl (T 0, 3, .inl f3)), (a7, .inl (T 0, 9, .inl (cI f4))), (a8, .inl (T 0, 9, .inl (cI f5))), (a10, .inl (T 0, 9, .inl (cI f6))), (a14, .inl (T 0, 3, .inl (cI f7)))]) (r_S (f := 0) [] M w V_HookedCity_State_97 G1145 (c235_X7_nextSeed l D T _ z1 z1_a z1_b) rfl (by decide) rfl hl.1 rfl (Nat.le_of_ble_eq_true rfl) dX7_drawAct_34 (by decide) (by decide) (by decide) (by decide)) w [] [0, 1, 2, 3, 4, 5, 6, 7, 8, 9] rfl rfl (by decide) (by decide) rfl rfl (fun v z7 H locs hp w => ?_)
        have hv : iI z7 = v := hp.1
        subst hv
        have z7_a : (-2147483648) ≤ z7 := hp.2.1
        have z7_b : z7 ≤ 2147483647 := hp.2.2
        have w : WD D A s.heap [(a0, .inr (7, [.ref a2, .ref a3, .ref a4, .ref a5, .int r0, .int r1, .int r2, .int r3])), (a1, .inr (9, [.ref a6, .ref a7, .ref a8, .ref a9, .ref a10, .ref a11, .ref a12, .ref a13, .ref a14, .int (iI x2), .int (iI x3), .int (iI x4), .int (iI x5), .int (iI x6), .int (iI x7), .int (iI x8), .int (iI x9), .int (iI x10)])), (a2, .inl (T 0, 9, .inl f0)), (a3, .inl (T 0, 9, .inl (cI f1))), (a4, .inl (T 0, 9, .inl (cI f2))), (a5, .inl (T 0, 3, .inl f3)), (a7, .inl (T 0, 9, .inl (cI f4))), (a8, .inl (T 0, 9, .inl (cI f5))), (a10, .inl (T 0, 9, .inl (cI f6))), (a14, .inl (T 0, 3, .inl (cI f7)))] H locs := w
        refine lv_istore (lv' := [(4, .int (iI z7)), (5, .int (iI 0)), (0, .ref a0), (1, .ref a1), (2, .int (iI x0)), (3, .int (iI x1))]) hx hb dX7_drawAct_37 hl (by decide) rfl (fun ls hl => ?_)
        refine lv_iload hx hb dX7_drawAct_39 (lv_at hl 0 rfl) ?_
        refine lv_aload_n hx hb dX7_drawAct_41 rfl (lv_at hl 3 rfl) ?_
        refine r_getN (v := .int (iI x2)) M w 1 9 clX9 rfl (by decide) N390 rfl rfl dX7_drawAct_42 ?_
        refine k_I (ce := 0) (sl := 0) (rest := []) (wr := [(a0, .inr (7, [.ref a2, .ref a3, .ref a4, .ref a5, .int r0, .int r1, .int r2, .int r3])), (a1, .inr (9, [.ref a6, .ref a7, .ref a8, .ref a9, .ref a10, .ref a11, .ref a12, .ref a13, .ref a14, .int (iI x2), .int (iI x3), .int (iI x4), .int (iI x5), .int (iI x6), .int (iI x7), .int (iI x8), .int (iI x9), .int (iI x10)])), (a2, .inl (T 0, 9, .inl f0)), (a3, .inl (T 0, 9, .inl (cI f1))), (a4, .inl (T 0, 9, .inl (cI f2))), (a5, .inl (T 0, 3, .inl f3)), (a7, .inl (T 0, 9, .inl (cI f4))), (a8, .inl (T 0, 9, .inl (cI f5))), (a10, .inl (T 0, 9, .inl (cI f6))), (a14, .inl (T 0, 3, .inl (cI f7)))]) (r_S (f := 0) [] M w V_HookedCity_State_101 G1149 (c236_X7_draw l D T _ z7 x2 z7_a z7_b (by omega) (by omega)) rfl (by decide) rfl hl.1 rfl (Nat.le_of_ble_eq_true rfl) dX7_drawAct_45 (by decide) (by decide) (by decide) (by decide)) w [] [0, 1, 2, 3, 4, 5, 6, 7, 8, 9] rfl rfl (by decide) (by decide) rfl rfl (fun v z8 H locs hp w => ?_)
        have hv : iI z8 = v := hp.1
        subst hv
        have z8_a : 0 ≤ z8 := hp.2.1
        have z8_b : z8 ≤ 2147483647 := hp.2.2.1
        have ee9 : 0 ≤ ((x2 - z8) - 1) := hp.2.2.2.1
        have w : WD D A s.heap [(a0, .inr (7, [.ref a2, .ref a3, .ref a4, .ref a5, .int r0, .int r1, .int r2, .int r3])), (a1, .inr (9, [.ref a6, .ref a7, .ref a8, .ref a9, .ref a10, .ref a11, .ref a12, .ref a13, .ref a14, .int (iI x2), .int (iI x3), .int (iI x4), .int (iI x5), .int (iI x6), .int (iI x7), .int (iI x8), .int (iI x9), .int (iI x10)])), (a2, .inl (T 0, 9, .inl f0)), (a3, .inl (T 0, 9, .inl (cI f1))), (a4, .inl (T 0, 9, .inl (cI f2))), (a5, .inl (T 0, 3, .inl f3)), (a7, .inl (T 0, 9, .inl (cI f4))), (a8, .inl (T 0, 9, .inl (cI f5))), (a10, .inl (T 0, 9, .inl (cI f6))), (a14, .inl (T 0, 3, .inl (cI f7)))] H locs := w
        rcases hp.2.2.2.2 with c_10
        · refine lv_istore (lv' := [(6, .int (iI z8)), (4, .int (iI z7)), (5, .int (iI 0)), (0, .ref a0), (1, .ref a1), (2, .int (iI x0)), (3, .int (iI x1))]) hx hb dX7_drawAct_48 hl (by decide) rfl (fun ls hl => ?_)
          refine lv_iload hx hb dX7_drawAct_50 (lv_at hl 2 rfl) ?_
          refine lv_if_eq (tgt := 76) hx hb dX7_drawAct_52 (by decide) (fun _ => ?_) (fun c => absurd (by decide +kernel) c)
          refine lv_iload hx hb dX7_drawAct_76 (lv_at hl 1 rfl) ?_
          refine k_I (ce := 0) (sl := 0) (rest := []) (wr := [(a0, .inr (7, [.ref a2, .ref a3, .ref a4, .ref a5, .int r0, .int r1, .int r2, .int r3])), (a1, .inr (9, [.ref a6, .ref a7, .ref a8, .ref a9, .ref a10, .ref a11, .ref a12, .ref a13, .ref a14, .int (iI x2), .int (iI x3), .int (iI x4), .int (iI x5), .int (iI x6), .int (iI x7), .int (iI x8), .int (iI x9), .int (iI x10)])), (a2, .inl (T 0, 9, .inl f0)), (a3, .inl (T 0, 9, .inl (cI f1))), (a4, .inl (T 0, 9, .inl (cI f2))), (a5, .inl (T 0, 3, .inl f3)), (a7, .inl (T 0, 9, .inl (cI f4))), (a8, .inl (T 0, 9, .inl (cI f5))), (a10, .inl (T 0, 9, .inl (cI f6))), (a14, .inl (T 0, 3, .inl (cI f7)))]) (r_S (f := 0) [] M w V_HookedCity_State_97 G1145 (c235_X7_nextSeed l D T _ z7 z7_a z7_b) rfl (by decide) rfl hl.1 rfl (Nat.le_of_ble_eq_true rfl) dX7_drawAct_78 (by decide) (by decide) (by decide) (by decide)) w [] [0, 1, 2, 3, 4, 5, 6, 7, 8, 9] rfl rfl (by decide) (by decide) rfl rfl (fun v z11 H locs hp w => ?_)
          have hv : iI z11 = v := hp.1
          subst hv
          have z11_a : (-2147483648) ≤ z11 := hp.2.1
          have z11_b : z11 ≤ 2147483647 := hp.2.2
          have w : WD D A s.heap [(a0, .inr (7, [.ref a2, .ref a3, .ref a4, .ref a5, .int r0, .int r1, .int r2, .int r3])), (a1, .inr (9, [.ref a6, .ref a7, .ref a8, .ref a9, .ref a10, .ref a11, .ref a12, .ref a13, .ref a14, .int (iI x2), .int (iI x3), .int (iI x4), .int (iI x5), .int (iI x6), .int (iI x7), .int (iI x8), .int (iI x9), .int (iI x10)])), (a2, .inl (T 0, 9, .inl f0)), (a3, .inl (T 0, 9, .inl (cI f1))), (a4, .inl (T 0, 9, .inl (cI f2))), (a5, .inl (T 0, 3, .inl f3)), (a7, .inl (T 0, 9, .inl (cI f4))), (a8, .inl (T 0, 9, .inl (cI f5))), (a10, .inl (T 0, 9, .inl (cI f6))), (a14, .inl (T 0, 3, .inl (cI f7)))] H locs := w
          refine lv_istore (lv' := [(4, .int (iI z11)), (6, .int (iI z8)), (5, .int (iI 0)), (0, .ref a0), (1, .ref a1), (2, .int (iI x0)), (3, .int (iI x1))]) hx hb dX7_drawAct_81 hl (by decide) rfl (fun ls hl => ?_)
          refine lv_iload hx hb dX7_drawAct_83 (lv_at hl 0 rfl) ?_
          refine lv_aload_n hx hb dX7_drawAct_85 rfl (lv_at hl 4 rfl) ?_
          refine r_getN (v := .int (iI x2)) M w 1 9 clX9 rfl (by decide) N390 rfl rfl dX7_drawAct_86 ?_
          refine k_I (ce := 0) (sl := 0) (rest := []) (wr := [(a0, .inr (7, [.ref a2, .ref a3, .ref a4, .ref a5, .int r0, .int r1, .int r2, .int r3])), (a1, .inr (9, [.ref a6, .ref a7, .ref a8, .ref a9, .ref a10, .ref a11, .ref a12, .ref a13, .ref a14, .int (iI x2), .int (iI x3), .int (iI x4), .int (iI x5), .int (iI x6), .int (iI x7), .int (iI x8), .int (iI x9), .int (iI x10)])), (a2, .inl (T 0, 9, .inl f0)), (a3, .inl (T 0, 9, .inl (cI f1))), (a4, .inl (T 0, 9, .inl (cI f2))), (a5, .inl (T 0, 3, .inl f3)), (a7, .inl (T 0, 9, .inl (cI f4))), (a8, .inl (T 0, 9, .inl (cI f5))), (a10, .inl (T 0, 9, .inl (cI f6))), (a14, .inl (T 0, 3, .inl (cI f7)))]) (r_S (f := 0) [] M w V_HookedCity_State_101 G1149 (c236_X7_draw l D T _ z11 x2 z11_a z11_b (by omega) (by omega)) rfl (by decide) rfl hl.1 rfl (Nat.le_of_ble_eq_true rfl) dX7_drawAct_89 (by decide) (by decide) (by decide) (by decide)) w [] [0, 1, 2, 3, 4, 5, 6, 7, 8, 9] rfl rfl (by decide) (by decide) rfl rfl (fun v z12 H locs hp w => ?_)
          have hv : iI z12 = v := hp.1
          subst hv
          have z12_a : 0 ≤ z12 := hp.2.1
          have z12_b : z12 ≤ 2147483647 := hp.2.2.1
          have ee13 : 0 ≤ ((x2 - z12) - 1) := hp.2.2.2.1
          have w : WD D A s.heap [(a0, .inr (7, [.ref a2, .ref a3, .ref a4, .ref a5, .int r0, .int r1, .int r2, .int r3])), (a1, .inr (9, [.ref a6, .ref a7, .ref a8, .ref a9, .ref a10, .ref a11, .ref a12, .ref a13, .ref a14, .int (iI x2), .int (iI x3), .int (iI x4), .int (iI x5), .int (iI x6), .int (iI x7), .int (iI x8), .int (iI x9), .int (iI x10)])), (a2, .inl (T 0, 9, .inl f0)), (a3, .inl (T 0, 9, .inl (cI f1))), (a4, .inl (T 0, 9, .inl (cI f2))), (a5, .inl (T 0, 3, .inl f3)), (a7, .inl (T 0, 9, .inl (cI f4))), (a8, .inl (T 0, 9, .inl (cI f5))), (a10, .inl (T 0, 9, .inl (cI f6))), (a14, .inl (T 0, 3, .inl (cI f7)))] H locs := w
          rcases hp.2.2.2.2 with c_14
          · refine lv_istore (lv' := [(7, .int (iI z12)), (4, .int (iI z11)), (6, .int (iI z8)), (5, .int (iI 0)), (0, .ref a0), (1, .ref a1), (2, .int (iI x0)), (3, .int (iI x1))]) hx hb dX7_drawAct_92 hl (by decide) rfl (fun ls hl => ?_)
            refine lv_aload_n hx hb dX7_drawAct_94 rfl (lv_at hl 4 rfl) ?_
            refine lv_aload_n hx hb dX7_drawAct_95 rfl (lv_at hl 5 rfl) ?_
            refine lv_iload_n hx hb dX7_drawAct_96 rfl (lv_at hl 6 rfl) ?_
            refine lv_iload hx hb dX7_drawAct_97 (lv_at hl 2 rfl) ?_
            refine lv_iload hx hb dX7_drawAct_99 (lv_at hl 0 rfl) ?_
            refine k_I (ce := 0) (sl := 0) (rest := []) (wr := []) (r_V (f := 2) [0, 1, 2, 3, 4, 5, 6, 7, 8, 9] M w V_HookedCity_State_112 G844 G845 (c224_X7_whyNotDoUp l D T _ a0 a1 x0 z8 z12 a2 a3 a4 a5 r0 r1 r2 r3 a6 a7 a8 a9 a10 a11 a12 a13 a14 x2 x3 x4 x5 x6 x7 x8 x9 x10 f0 f1 f2 f3 f4 f5 f6 f7 x0_a x0_b (by omega) (by omega) (by omega) (by omega) x2_a x2_b x3_a x3_b x4_a x4_b x5_a x5_b x6_a x6_b x7_a x7_b x8_a x8_b x9_a x9_b x10_a x10_b f1_h f2_h f4_h f5_h f6_h f7_h) 0 clX7 rfl rfl (by decide) rfl hl.1 rfl (Nat.le_of_ble_eq_true rfl) dX7_drawAct_101 (by decide) (by decide) (by decide) (by decide)) w [0, 1, 2, 3, 4, 5, 6, 7, 8, 9] [] rfl rfl (by decide) (by decide) rfl rfl (fun v z15 H locs hp w => ?_)
            have hv : iI z15 = v := hp.1
            subst hv
            have z15_a : (-2147483648) ≤ z15 := hp.2.1
            have z15_b : z15 ≤ 2147483647 := hp.2.2
            have w : WD D A s.heap [(a0, .inr (7, [.ref a2, .ref a3, .ref a4, .ref a5, .int r0, .int r1, .int r2, .int r3])), (a1, .inr (9, [.ref a6, .ref a7, .ref a8, .ref a9, .ref a10, .ref a11, .ref a12, .ref a13, .ref a14, .int (iI x2), .int (iI x3), .int (iI x4), .int (iI x5), .int (iI x6), .int (iI x7), .int (iI x8), .int (iI x9), .int (iI x10)])), (a2, .inl (T 0, 9, .inl f0)), (a3, .inl (T 0, 9, .inl (cI f1))), (a4, .inl (T 0, 9, .inl (cI f2))), (a5, .inl (T 0, 3, .inl f3)), (a7, .inl (T 0, 9, .inl (cI f4))), (a8, .inl (T 0, 9, .inl (cI f5))), (a10, .inl (T 0, 9, .inl (cI f6))), (a14, .inl (T 0, 3, .inl (cI f7)))] H locs := w
            refine lv_if_ne (tgt := 116) hx hb dX7_drawAct_104 (by decide) (fun c_16 => ?_) (fun c_16 => ?_)
            · replace c_16 : ¬ z15 = 0 := fun h => c_16 ((iz_eq (Int.le_trans (by decide) z15_a) (Int.le_trans z15_b (by decide))).mpr h)
              refine lv_iload hx hb dX7_drawAct_116 (lv_at hl 1 rfl) ?_
              exact ret _ (z11, r2, f1, f2, f3) _ _ _ _ _ [0, 1, 2, 3, 4, 5, 6, 7, 8, 9] dX7_drawAct_118 ⟨rfl, z11_a, z11_b, f1_h, f2_h⟩ w (by decide) rfl
            · replace c_16 := (iz_eq (Int.le_trans (by decide) z15_a) (Int.le_trans z15_b (by decide))).mp c_16
              refine lv_aload_n hx hb dX7_drawAct_107 rfl (lv_at hl 4 rfl) ?_
              refine lv_iload_n hx hb dX7_drawAct_108 rfl (lv_at hl 6 rfl) ?_
              refine lv_iload hx hb dX7_drawAct_109 (lv_at hl 2 rfl) ?_
              refine lv_iload hx hb dX7_drawAct_111 (lv_at hl 0 rfl) ?_
              refine k_V (ce := 0) (sl := 0) (rest := []) (wr := [(a1, .inr (9, [.ref a6, .ref a7, .ref a8, .ref a9, .ref a10, .ref a11, .ref a12, .ref a13, .ref a14, .int (iI x2), .int (iI x3), .int (iI x4), .int (iI x5), .int (iI x6), .int (iI x7), .int (iI x8), .int (iI x9), .int (iI x10)])), (a2, .inl (T 0, 9, .inl f0)), (a7, .inl (T 0, 9, .inl (cI f4))), (a8, .inl (T 0, 9, .inl (cI f5))), (a10, .inl (T 0, 9, .inl (cI f6))), (a14, .inl (T 0, 3, .inl (cI f7)))]) (r_V (f := 0) [0, 3, 4, 5] M w V_HookedCity_State_116 G869 G870 (c225_X7_doUp l D T _ a0 x0 z8 z12 a2 a3 a4 a5 r0 r1 r2 r3 f1 f2 f3 x0_a x0_b (by omega) (by omega) (by omega) (by omega) f1_h f2_h) 0 clX7 rfl rfl (by decide) rfl hl.1 rfl (Nat.le_of_ble_eq_true rfl) dX7_drawAct_113 (by decide) (by decide) (by decide) (by decide)) w [0, 3, 4, 5] [1, 2, 6, 7, 8, 9] rfl rfl (by decide) (by decide) rfl rfl (fun u H locs hp w => ?_)
              obtain ⟨fr17, ff18, ff19, ff20⟩ := u
              have ff18_h : rng (-1) 8 ff18 := hp.1
              have ff19_h : rng (-1) 8 ff19 := hp.2
              have w : WD D A s.heap [(a1, .inr (9, [.ref a6, .ref a7, .ref a8, .ref a9, .ref a10, .ref a11, .ref a12, .ref a13, .ref a14, .int (iI x2), .int (iI x3), .int (iI x4), .int (iI x5), .int (iI x6), .int (iI x7), .int (iI x8), .int (iI x9), .int (iI x10)])), (a2, .inl (T 0, 9, .inl f0)), (a7, .inl (T 0, 9, .inl (cI f4))), (a8, .inl (T 0, 9, .inl (cI f5))), (a10, .inl (T 0, 9, .inl (cI f6))), (a14, .inl (T 0, 3, .inl (cI f7))), (a0, .inr (7, [.ref a2, .ref a3, .ref a4, .ref a5, .int r0, .int r1, .int fr17, .int r3])), (a3, .inl (T 0, 9, .inl (cI ff18))), (a4, .inl (T 0, 9, .inl (cI ff19))), (a5, .inl (T 0, 3, .inl ff20))] H locs := w
              refine lv_iload hx hb dX7_drawAct_116 (lv_at hl 1 rfl) ?_
              exact ret _ (z11, fr17, ff18, ff19, ff20) _ _ _ _ _ [6, 0, 1, 7, 8, 9, 2, 3, 4, 5] dX7_drawAct_118 ⟨rfl, z11_a, z11_b, ff18_h, ff19_h⟩ w (by decide) rfl
      · replace c_6 := (iz_eq (Int.le_trans (by decide) x2_a) (Int.le_trans x2_b (by decide))).mp c_6
        refine lv_iload hx hb dX7_drawAct_29 (lv_at hl 1 rfl) ?_
        exact ret _ (z1, r2, f1, f2, f3) _ _ _ _ _ [0, 1, 2, 3, 4, 5, 6, 7, 8, 9] dX7_drawAct_31 ⟨rfl, z1_a, z1_b, f1_h, f2_h⟩ w (by decide) rfl
    · replace c_5 := (iz_eq (Int.le_trans (by decide) z2_a) (Int.le_trans z2_b (by decide))).mp c_5
      refine lv_iconst (v := iI 1) hx hb dX7_drawAct_15 (by decide +kernel) ?_
      refine lv_goto (tgt := 20) hx hb dX7_drawAct_16 (by decide) ?_
      refine lv_istore (lv' := [(5, .int (iI 1)), (4, .int (iI z1)), (0, .ref a0), (1, .ref a1), (2, .int (iI x0)), (3, .int (iI x1))]) hx hb dX7_drawAct_20 hl (by decide) rfl (fun ls hl => ?_)
      refine lv_aload_n hx hb dX7_drawAct_22 rfl (lv_at hl 3 rfl) ?_
      refine r_getN (v := .int (iI x2)) M w 1 9 clX9 rfl (by decide) N390 rfl rfl dX7_drawAct_23 ?_
      refine lv_if_ne (tgt := 32) hx hb dX7_drawAct_26 (by decide) (fun c_21 => ?_) (fun c_21 => ?_)
      · replace c_21 : ¬ x2 = 0 := fun h => c_21 ((iz_eq (Int.le_trans (by decide) x2_a) (Int.le_trans x2_b (by decide))).mpr h)
        refine lv_iload hx hb dX7_drawAct_32 (lv_at hl 1 rfl) ?_
        refine k_I (ce := 0) (sl := 0) (rest := []) (wr := [(a0, .inr (7, [.ref a2, .ref a3, .ref a4, .ref a5, .int r0, .int r1, .int r2, .int r3])), (a1, .inr (9, [.ref a6, .ref a7, .ref a8, .ref a9, .ref a10, .ref a11, .ref a12, .ref a13, .ref a14, .int (iI x2), .int (iI x3), .int (iI x4), .int (iI x5), .int (iI x6), .int (iI x7), .int (iI x8), .int (iI x9), .int (iI x10)])), (a2, .inl (T 0, 9, .inl f0)), (a3, .inl (T 0, 9, .inl (cI f1))), (a4, .inl (T 0, 9, .inl (cI f2))), (a5, .inl (T 0, 3, .inl f3)), (a7, .inl (T 0, 9, .inl (cI f4))), (a8, .inl (T 0, 9, .inl (cI f5))), (a10, .inl (T 0, 9, .inl (cI f6))), (a14, .inl (T 0, 3, .inl (cI f7)))]) (r_S (f := 0) [] M w V_HookedCity_State_97 G1145 (c235_X7_nextSeed l D T _ z1 z1_a z1_b) rfl (by decide) rfl hl.1 rfl (Nat.le_of_ble_eq_true rfl) dX7_drawAct_34 (by decide) (by decide) (by decide) (by decide)) w [] [0, 1, 2, 3, 4, 5, 6, 7, 8, 9] rfl rfl (by decide) (by decide) rfl rfl (fun v z22 H locs hp w => ?_)
        have hv : iI z22 = v := hp.1
        subst hv
        have z22_a : (-2147483648) ≤ z22 := hp.2.1
        have z22_b : z22 ≤ 2147483647 := hp.2.2
        have w : WD D A s.heap [(a0, .inr (7, [.ref a2, .ref a3, .ref a4, .ref a5, .int r0, .int r1, .int r2, .int r3])), (a1, .inr (9, [.ref a6, .ref a7, .ref a8, .ref a9, .ref a10, .ref a11, .ref a12, .ref a13, .ref a14, .int (iI x2), .int (iI x3), .int (iI x4), .int (iI x5), .int (iI x6), .int (iI x7), .int (iI x8), .int (iI x9), .int (iI x10)])), (a2, .inl (T 0, 9, .inl f0)), (a3, .inl (T 0, 9, .inl (cI f1))), (a4, .inl (T 0, 9, .inl (cI f2))), (a5, .inl (T 0, 3, .inl f3)), (a7, .inl (T 0, 9, .inl (cI f4))), (a8, .inl (T 0, 9, .inl (cI f5))), (a10, .inl (T 0, 9, .inl (cI f6))), (a14, .inl (T 0, 3, .inl (cI f7)))] H locs := w
        refine lv_istore (lv' := [(4, .int (iI z22)), (5, .int (iI 1)), (0, .ref a0), (1, .ref a1), (2, .int (iI x0)), (3, .int (iI x1))]) hx hb dX7_drawAct_37 hl (by decide) rfl (fun ls hl => ?_)
        refine lv_iload hx hb dX7_drawAct_39 (lv_at hl 0 rfl) ?_
        refine lv_aload_n hx hb dX7_drawAct_41 rfl (lv_at hl 3 rfl) ?_
        refine r_getN (v := .int (iI x2)) M w 1 9 clX9 rfl (by decide) N390 rfl rfl dX7_drawAct_42 ?_
        refine k_I (ce := 0) (sl := 0) (rest := []) (wr := [(a0, .inr (7, [.ref a2, .ref a3, .ref a4, .ref a5, .int r0, .int r1, .int r2, .int r3])), (a1, .inr (9, [.ref a6, .ref a7, .ref a8, .ref a9, .ref a10, .ref a11, .ref a12, .ref a13, .ref a14, .int (iI x2), .int (iI x3), .int (iI x4), .int (iI x5), .int (iI x6), .int (iI x7), .int (iI x8), .int (iI x9), .int (iI x10)])), (a2, .inl (T 0, 9, .inl f0)), (a3, .inl (T 0, 9, .inl (cI f1))), (a4, .inl (T 0, 9, .inl (cI f2))), (a5, .inl (T 0, 3, .inl f3)), (a7, .inl (T 0, 9, .inl (cI f4))), (a8, .inl (T 0, 9, .inl (cI f5))), (a10, .inl (T 0, 9, .inl (cI f6))), (a14, .inl (T 0, 3, .inl (cI f7)))]) (r_S (f := 0) [] M w V_HookedCity_State_101 G1149 (c236_X7_draw l D T _ z22 x2 z22_a z22_b (by omega) (by omega)) rfl (by decide) rfl hl.1 rfl (Nat.le_of_ble_eq_true rfl) dX7_drawAct_45 (by decide) (by decide) (by decide) (by decide)) w [] [0, 1, 2, 3, 4, 5, 6, 7, 8, 9] rfl rfl (by decide) (by decide) rfl rfl (fun v z23 H locs hp w => ?_)
        have hv : iI z23 = v := hp.1
        subst hv
        have z23_a : 0 ≤ z23 := hp.2.1
        have z23_b : z23 ≤ 2147483647 := hp.2.2.1
        have ee24 : 0 ≤ ((x2 - z23) - 1) := hp.2.2.2.1
        have w : WD D A s.heap [(a0, .inr (7, [.ref a2, .ref a3, .ref a4, .ref a5, .int r0, .int r1, .int r2, .int r3])), (a1, .inr (9, [.ref a6, .ref a7, .ref a8, .ref a9, .ref a10, .ref a11, .ref a12, .ref a13, .ref a14, .int (iI x2), .int (iI x3), .int (iI x4), .int (iI x5), .int (iI x6), .int (iI x7), .int (iI x8), .int (iI x9), .int (iI x10)])), (a2, .inl (T 0, 9, .inl f0)), (a3, .inl (T 0, 9, .inl (cI f1))), (a4, .inl (T 0, 9, .inl (cI f2))), (a5, .inl (T 0, 3, .inl f3)), (a7, .inl (T 0, 9, .inl (cI f4))), (a8, .inl (T 0, 9, .inl (cI f5))), (a10, .inl (T 0, 9, .inl (cI f6))), (a14, .inl (T 0, 3, .inl (cI f7)))] H locs := w
        rcases hp.2.2.2.2 with c_25
        · refine lv_istore (lv' := [(6, .int (iI z23)), (4, .int (iI z22)), (5, .int (iI 1)), (0, .ref a0), (1, .ref a1), (2, .int (iI x0)), (3, .int (iI x1))]) hx hb dX7_drawAct_48 hl (by decide) rfl (fun ls hl => ?_)
          refine lv_iload hx hb dX7_drawAct_50 (lv_at hl 2 rfl) ?_
          refine lv_if_eq (tgt := 76) hx hb dX7_drawAct_52 (by decide) (fun c => absurd c (by decide +kernel)) (fun _ => ?_)
          refine lv_aload_n hx hb dX7_drawAct_55 rfl (lv_at hl 3 rfl) ?_
          refine lv_aload_n hx hb dX7_drawAct_56 rfl (lv_at hl 4 rfl) ?_
          refine lv_iload_n hx hb dX7_drawAct_57 rfl (lv_at hl 5 rfl) ?_
          refine lv_iload hx hb dX7_drawAct_58 (lv_at hl 0 rfl) ?_
          refine k_I (ce := 0) (sl := 0) (rest := []) (wr := [(a2, .inl (T 0, 9, .inl f0)), (a4, .inl (T 0, 9, .inl (cI f2))), (a7, .inl (T 0, 9, .inl (cI f4))), (a8, .inl (T 0, 9, .inl (cI f5))), (a10, .inl (T 0, 9, .inl (cI f6)))]) (r_V (f := 0) [0, 1, 3, 5, 9] M w V_HookedCity_State_105 G877 G878 (c226_X7_whyNotLetGo l D T _ a0 a1 x0 z23 a2 a3 a4 a5 r0 r1 r2 r3 a6 a7 a8 a9 a10 a11 a12 a13 a14 x2 x3 x4 x5 x6 x7 x8 x9 x10 f1 f3 f7 x0_a x0_b (by omega) (by omega) x2_a x2_b x3_a x3_b x4_a x4_b x5_a x5_b x6_a x6_b x7_a x7_b x8_a x8_b x9_a x9_b x10_a x10_b f1_h f7_h) 0 clX7 rfl rfl (by decide) rfl hl.1 rfl (Nat.le_of_ble_eq_true rfl) dX7_drawAct_60 (by decide) (by decide) (by decide) (by decide)) w [0, 1, 3, 5, 9] [2, 4, 6, 7, 8] rfl rfl (by decide) (by decide) rfl rfl (fun v z26 H locs hp w => ?_)
          have hv : iI z26 = v := hp.1
          subst hv
          have z26_a : (-2147483648) ≤ z26 := hp.2.1
          have z26_b : z26 ≤ 2147483647 := hp.2.2
          have w : WD D A s.heap [(a2, .inl (T 0, 9, .inl f0)), (a4, .inl (T 0, 9, .inl (cI f2))), (a7, .inl (T 0, 9, .inl (cI f4))), (a8, .inl (T 0, 9, .inl (cI f5))), (a10, .inl (T 0, 9, .inl (cI f6))), (a0, .inr (7, [.ref a2, .ref a3, .ref a4, .ref a5, .int r0, .int r1, .int r2, .int r3])), (a1, .inr (9, [.ref a6, .ref a7, .ref a8, .ref a9, .ref a10, .ref a11, .ref a12, .ref a13, .ref a14, .int (iI x2), .int (iI x3), .int (iI x4), .int (iI x5), .int (iI x6), .int (iI x7), .int (iI x8), .int (iI x9), .int (iI x10)])), (a3, .inl (T 0, 9, .inl (cI f1))), (a5, .inl (T 0, 3, .inl f3)), (a14, .inl (T 0, 3, .inl (cI f7)))] H locs := w
          refine lv_if_ne (tgt := 73) hx hb dX7_drawAct_63 (by decide) (fun c_27 => ?_) (fun c_27 => ?_)
          · replace c_27 : ¬ z26 = 0 := fun h => c_27 ((iz_eq (Int.le_trans (by decide) z26_a) (Int.le_trans z26_b (by decide))).mpr h)
            refine lv_iload hx hb dX7_drawAct_73 (lv_at hl 1 rfl) ?_
            exact ret _ (z22, r2, f1, f2, f3) _ _ _ _ _ [5, 6, 0, 7, 1, 8, 2, 3, 4, 9] dX7_drawAct_75 ⟨rfl, z22_a, z22_b, f1_h, f2_h⟩ w (by decide) rfl
          · replace c_27 := (iz_eq (Int.le_trans (by decide) z26_a) (Int.le_trans z26_b (by decide))).mp c_27
            refine lv_aload_n hx hb dX7_drawAct_66 rfl (lv_at hl 3 rfl) ?_
            refine lv_iload_n hx hb dX7_drawAct_67 rfl (lv_at hl 5 rfl) ?_
            refine lv_iload hx hb dX7_drawAct_68 (lv_at hl 0 rfl) ?_
            refine k_V (ce := 0) (sl := 0) (rest := []) (wr := [(a2, .inl (T 0, 9, .inl f0)), (a7, .inl (T 0, 9, .inl (cI f4))), (a8, .inl (T 0, 9, .inl (cI f5))), (a10, .inl (T 0, 9, .inl (cI f6))), (a1, .inr (9, [.ref a6, .ref a7, .ref a8, .ref a9, .ref a10, .ref a11, .ref a12, .ref a13, .ref a14, .int (iI x2), .int (iI x3), .int (iI x4), .int (iI x5), .int (iI x6), .int (iI x7), .int (iI x8), .int (iI x9), .int (iI x10)])), (a14, .inl (T 0, 3, .inl (cI f7)))]) (r_V (f := 1) [5, 7, 1, 8] M w V_HookedCity_State_108 G881 G882 (c228_X7_letGo l D T _ a0 x0 z23 a2 a3 a4 a5 r0 r1 r2 r3 f1 f2 f3 x0_a x0_b (by omega) (by omega) f1_h f2_h) 5 clX7 rfl rfl (by decide) rfl hl.1 rfl (Nat.le_of_ble_eq_true rfl) dX7_drawAct_70 (by decide) (by decide) (by decide) (by decide)) w [5, 7, 1, 8] [0, 2, 3, 4, 6, 9] rfl rfl (by decide) (by decide) rfl rfl (fun u H locs hp w => ?_)
            obtain ⟨ff28, ff29, ff30⟩ := u
            have ff28_h : rng (-1) 8 ff28 := hp.1
            have ff29_h : rng (-1) 8 ff29 := hp.2
            have w : WD D A s.heap [(a2, .inl (T 0, 9, .inl f0)), (a7, .inl (T 0, 9, .inl (cI f4))), (a8, .inl (T 0, 9, .inl (cI f5))), (a10, .inl (T 0, 9, .inl (cI f6))), (a1, .inr (9, [.ref a6, .ref a7, .ref a8, .ref a9, .ref a10, .ref a11, .ref a12, .ref a13, .ref a14, .int (iI x2), .int (iI x3), .int (iI x4), .int (iI x5), .int (iI x6), .int (iI x7), .int (iI x8), .int (iI x9), .int (iI x10)])), (a14, .inl (T 0, 3, .inl (cI f7))), (a0, .inr (7, [.ref a2, .ref a3, .ref a4, .ref a5, .int r0, .int r1, .int r2, .int r3])), (a3, .inl (T 0, 9, .inl (cI ff28))), (a4, .inl (T 0, 9, .inl (cI ff29))), (a5, .inl (T 0, 3, .inl ff30))] H locs := w
            refine lv_iload hx hb dX7_drawAct_73 (lv_at hl 1 rfl) ?_
            exact ret _ (z22, r2, ff28, ff29, ff30) _ _ _ _ _ [6, 4, 0, 7, 8, 9, 1, 2, 3, 5] dX7_drawAct_75 ⟨rfl, z22_a, z22_b, ff28_h, ff29_h⟩ w (by decide) rfl
      · replace c_21 := (iz_eq (Int.le_trans (by decide) x2_a) (Int.le_trans x2_b (by decide))).mp c_21
        refine lv_iload hx hb dX7_drawAct_29 (lv_at hl 1 rfl) ?_
        exact ret _ (z1, r2, f1, f2, f3) _ _ _ _ _ [0, 1, 2, 3, 4, 5, 6, 7, 8, 9] dX7_drawAct_31 ⟨rfl, z1_a, z1_b, f1_h, f2_h⟩ w (by decide) rfl
set_option maxRecDepth 100000 in
set_option maxHeartbeats 4000000 in
theorem c238_X7_drawDays (l : Launch) (D : va_G) (T : Nat → ClassId) (sz : Nat) (a0 : Nat) (a1 : Nat) (x0 : Int) (x1 : Int) (a2 : Nat) (a3 : Nat) (a4 : Nat) (a5 : Nat) (r0 : Int32) (r1 : Int32) (r2 : Int32) (r3 : Int32) (a6 : Nat) (a7 : Nat) (a8 : Nat) (a9 : Nat) (a10 : Nat) (a11 : Nat) (a12 : Nat) (a13 : Nat) (a14 : Nat) (x2 : Int) (x3 : Int) (x4 : Int) (x5 : Int) (x6 : Int) (x7 : Int) (x8 : Int) (x9 : Int) (x10 : Int) (f0 : Nat → Int32) (f1 : Int → Int) (f2 : Int → Int) (f3 : Nat → Int32) (f4 : Int → Int) (f5 : Int → Int) (f6 : Int → Int) (f7 : Int → Int) (x0_a : (-2147483648) ≤ x0) (x0_b : x0 ≤ 2147483647) (x1_a : (-2147483648) ≤ x1) (x1_b : x1 ≤ 2147483647) (x2_a : 0 ≤ x2) (x2_b : x2 ≤ 9) (x3_a : 0 ≤ x3) (x3_b : x3 ≤ 3) (x4_a : 0 ≤ x4) (x4_b : x4 ≤ 900) (x5_a : (-2147483648) ≤ x5) (x5_b : x5 ≤ 2147483647) (x6_a : (-2147483648) ≤ x6) (x6_b : x6 ≤ 2147483647) (x7_a : (-2147483648) ≤ x7) (x7_b : x7 ≤ 2147483647) (x8_a : 0 ≤ x8) (x8_b : x8 ≤ 1) (x9_a : 0 ≤ x9) (x9_b : x9 ≤ 1) (x10_a : 0 ≤ x10) (x10_b : x10 ≤ 1) (f1_h : rng (-1) 8 f1) (f2_h : rng (-1) 8 f2) (f4_h : rng (-2147483648) 2147483647 f4) (f5_h : rng (-2147483648) 2147483647 f5) (f6_h : rng 0 511 f6) (f7_h : rng (-2147483648) 2147483647 f7) : Met l yX7_drawDays (Cond.code yX7_drawDays cX7_drawDays 7 (some .int) :: GW) (Rm 4 0 0) (cPre [.ref a0, .ref a1, .int (iI x0), .int (iI x1)] D T [(a0, .inr (7, [.ref a2, .ref a3, .ref a4, .ref a5, .int r0, .int r1, .int r2, .int r3])), (a1, .inr (9, [.ref a6, .ref a7, .ref a8, .ref a9, .ref a10, .ref a11, .ref a12, .ref a13, .ref a14, .int (iI x2), .int (iI x3), .int (iI x4), .int (iI x5), .int (iI x6), .int (iI x7), .int (iI x8), .int (iI x9), .int (iI x10)])), (a2, .inl (T 0, 9, .inl f0)), (a3, .inl (T 0, 9, .inl (cI f1))), (a4, .inl (T 0, 9, .inl (cI f2))), (a5, .inl (T 0, 3, .inl f3)), (a7, .inl (T 0, 9, .inl (cI f4))), (a8, .inl (T 0, 9, .inl (cI f5))), (a10, .inl (T 0, 9, .inl (cI f6))), (a14, .inl (T 0, 3, .inl (cI f7)))] sz) (qI D [(a0, .inr (7, [.ref a2, .ref a3, .ref a4, .ref a5, .int r0, .int r1, .int r2, .int r3])), (a1, .inr (9, [.ref a6, .ref a7, .ref a8, .ref a9, .ref a10, .ref a11, .ref a12, .ref a13, .ref a14, .int (iI x2), .int (iI x3), .int (iI x4), .int (iI x5), .int (iI x6), .int (iI x7), .int (iI x8), .int (iI x9), .int (iI x10)])), (a2, .inl (T 0, 9, .inl f0)), (a3, .inl (T 0, 9, .inl (cI f1))), (a4, .inl (T 0, 9, .inl (cI f2))), (a5, .inl (T 0, 3, .inl f3)), (a7, .inl (T 0, 9, .inl (cI f4))), (a8, .inl (T 0, 9, .inl (cI f5))), (a10, .inl (T 0, 9, .inl (cI f6))), (a14, .inl (T 0, 3, .inl (cI f7)))] sz (fun (v : Int32) (u : Int × Int32 × Int32 × Int32 × (Nat → Int32) × (Int → Int) × (Int → Int) × (Nat → Int32)) => iI u.1 = v ∧ (-2147483648) ≤ u.1 ∧ u.1 ≤ 2147483647 ∧ rng (-1) 8 u.2.2.2.2.2.1 ∧ rng (-1) 8 u.2.2.2.2.2.2.1) (fun u => [(a0, .inr (7, [.ref a2, .ref a3, .ref a4, .ref a5, .int u.2.1, .int r1, .int u.2.2.1, .int u.2.2.2.1])), (a1, .inr (9, [.ref a6, .ref a7, .ref a8, .ref a9, .ref a10, .ref a11, .ref a12, .ref a13, .ref a14, .int (iI x2), .int (iI x3), .int (iI x4), .int (iI x5), .int (iI x6), .int (iI x7), .int (iI x8), .int (iI x9), .int (iI x10)])), (a2, .inl (T 0, 9, .inl u.2.2.2.2.1)), (a3, .inl (T 0, 9, .inl (cI u.2.2.2.2.2.1))), (a4, .inl (T 0, 9, .inl (cI u.2.2.2.2.2.2.1))), (a5, .inl (T 0, 3, .inl u.2.2.2.2.2.2.2)), (a7, .inl (T 0, 9, .inl (cI f4))), (a8, .inl (T 0, 9, .inl (cI f5))), (a10, .inl (T 0, 9, .inl (cI f6))), (a14, .inl (T 0, 3, .inl (cI f7)))])) 0 0 (va_A [(a0, .inr (7, [.ref a2, .ref a3, .ref a4, .ref a5, .int r0, .int r1, .int r2, .int r3])), (a1, .inr (9, [.ref a6, .ref a7, .ref a8, .ref a9, .ref a10, .ref a11, .ref a12, .ref a13, .ref a14, .int (iI x2), .int (iI x3), .int (iI x4), .int (iI x5), .int (iI x6), .int (iI x7), .int (iI x8), .int (iI x9), .int (iI x10)])), (a2, .inl (T 0, 9, .inl f0)), (a3, .inl (T 0, 9, .inl (cI f1))), (a4, .inl (T 0, 9, .inl (cI f2))), (a5, .inl (T 0, 3, .inl f3)), (a7, .inl (T 0, 9, .inl (cI f4))), (a8, .inl (T 0, 9, .inl (cI f5))), (a10, .inl (T 0, 9, .inl (cI f6))), (a14, .inl (T 0, 3, .inl (cI f7)))] sz) := by
  refine e_I (by decide) (Nat.le_of_ble_eq_true rfl) ?_
  intro p e s m args below meth c A Q ls M hin w ret hl
  have hx := M.1.1
  have hb := M.1.2.1
  have hl : lv_has ls 7 [(0, .ref a0), (1, .ref a1), (2, .int (iI x0)), (3, .int (iI x1))] := hl
  refine lv_iconst (v := iI 0) hx hb dX7_drawDays_0 (by decide +kernel) ?_
  refine lv_istore (lv' := [(4, .int (iI 0)), (0, .ref a0), (1, .ref a1), (2, .int (iI x0)), (3, .int (iI x1))]) hx hb dX7_drawDays_1 hl (by decide) rfl (fun ls hl => ?_)
  refine lv_iload_n hx hb dX7_drawDays_3 rfl (lv_at hl 4 rfl) ?_
  refine lv_istore (lv' := [(5, .int (iI x1)), (4, .int (iI 0)), (0, .ref a0), (1, .ref a1), (2, .int (iI x0)), (3, .int (iI x1))]) hx hb dX7_drawDays_4 hl (by decide) rfl (fun ls hl => ?_)
  have loop1 : ∀ (k1 : Nat) (fr1 : Int32) (fr2 : Int32) (fr3 : Int32) (ff4 : Nat → Int32) (ff5 : Int → Int) (ff6 : Int → Int) (ff7 : Nat → Int32) (z8 : Int) (z9 : Int) (H : Heap) (locs : List Loc) (ls : Array Slot), rng (-1) 8 ff5 → rng (-1) 8 ff6 → (-2147483648) ≤ z8 → z8 ≤ 2147483647 → 0 ≤ z9 → z9 ≤ 2147483647 → ((x0 - z9) : Int).toNat < k1 → WD D A s.heap [(a0, .inr (7, [.ref a2, .ref a3, .ref a4, .ref a5, .int fr1, .int r1, .int fr2, .int fr3])), (a1, .inr (9, [.ref a6, .ref a7, .ref a8, .ref a9, .ref a10, .ref a11, .ref a12, .ref a13, .ref a14, .int (iI x2), .int (iI x3), .int (iI x4), .int (iI x5), .int (iI x6), .int (iI x7), .int (iI x8), .int (iI x9), .int (iI x10)])), (a2, .inl (T 0, 9, .inl ff4)), (a3, .inl (T 0, 9, .inl (cI ff5))), (a4, .inl (T 0, 9, .inl (cI ff6))), (a5, .inl (T 0, 3, .inl ff7)), (a7, .inl (T 0, 9, .inl (cI f4))), (a8, .inl (T 0, 9, .inl (cI f5))), (a10, .inl (T 0, 9, .inl (cI f6))), (a14, .inl (T 0, 3, .inl (cI f7)))] H locs → lv_has ls 7 [(5, .int (iI z8)), (4, .int (iI z9)), (0, .ref a0), (1, .ref a1), (2, .int (iI x0)), (3, .int (iI x1))] → W p l e (Rm 4 0 0) s m args below meth c H locs 0 0 Q (F0 m 6 ls []) := by
    intro k1
    induction k1 with
    | zero => intro fr1 fr2 fr3 ff4 ff5 ff6 ff7 z8 z9 H locs ls ff5_h ff6_h z8_a z8_b z9_a z9_b hm; exact absurd hm (Nat.not_lt_zero _)
    | succ k1 ih1 =>
      intro fr1 fr2 fr3 ff4 ff5 ff6 ff7 z8 z9 H locs ls ff5_h ff6_h z8_a z8_b z9_a z9_b hm1 w hl
      refine lv_iload hx hb dX7_drawDays_6 (lv_at hl 1 rfl) ?_
      refine lv_iload_n hx hb dX7_drawDays_8 rfl (lv_at hl 4 rfl) ?_
      refine lv_icmp_ge (tgt := 62) hx hb dX7_drawDays_9 (by decide) (fun c_10 => ?_) (fun c_10 => ?_)
      · replace c_10 := (iI_le (Int.le_trans (by decide) x0_a) (Int.le_trans x0_b (by decide)) (Int.le_trans (by decide) z9_a) (Int.le_trans z9_b (by decide))).mp c_10
        refine lv_iload hx hb dX7_drawDays_62 (lv_at hl 1 rfl) ?_
        exact ret _ (z9, fr1, fr2, fr3, ff4, ff5, ff6, ff7) _ _ _ _ _ [0, 1, 2, 3, 4, 5, 6, 7, 8, 9] dX7_drawDays_64 ⟨rfl, (show (-2147483648) ≤ z9 from by omega), (show z9 ≤ 2147483647 from by omega), ff5_h, ff6_h⟩ w (by decide) rfl
      · replace c_10 : z9 < x0 := Int.not_le.mp (fun h => c_10 ((iI_le (Int.le_trans (by decide) x0_a) (Int.le_trans x0_b (by decide)) (Int.le_trans (by decide) z9_a) (Int.le_trans z9_b (by decide))).mpr h))
        refine lv_aload_n hx hb dX7_drawDays_12 rfl (lv_at hl 2 rfl) ?_
        refine r_get (v := .int fr1) M w 0 4 clX7 rfl (by decide) G229 rfl rfl dX7_drawDays_13 ?_
        refine b_any (fun z11 z11_a z11_b => ?_)
        refine lv_sipush (v := iI 400) hx hb dX7_drawDays_16 (by decide +kernel) ?_
        refine lv_icmp_ge (tgt := 62) hx hb dX7_drawDays_19 (by decide) (fun c_12 => ?_) (fun c_12 => ?_)
        · replace c_12 := (iI_le (by decide) (by decide) (Int.le_trans (by decide) z11_a) (Int.le_trans z11_b (by decide))).mp c_12
          refine lv_iload hx hb dX7_drawDays_62 (lv_at hl 1 rfl) ?_
          exact ret _ (z9, fr1, fr2, fr3, ff4, ff5, ff6, ff7) _ _ _ _ _ [0, 1, 2, 3, 4, 5, 6, 7, 8, 9] dX7_drawDays_64 ⟨rfl, (show (-2147483648) ≤ z9 from by omega), (show z9 ≤ 2147483647 from by omega), ff5_h, ff6_h⟩ w (by decide) rfl
        · replace c_12 : z11 < 400 := Int.not_le.mp (fun h => c_12 ((iI_le (by decide) (by decide) (Int.le_trans (by decide) z11_a) (Int.le_trans z11_b (by decide))).mpr h))
          refine lv_iconst (v := iI 0) hx hb dX7_drawDays_22 (by decide +kernel) ?_
          refine lv_istore (lv' := [(6, .int (iI 0)), (5, .int (iI z8)), (4, .int (iI z9)), (0, .ref a0), (1, .ref a1), (2, .int (iI x0)), (3, .int (iI x1))]) hx hb dX7_drawDays_23 hl (by decide) rfl (fun ls hl => ?_)
          have loop2 : ∀ (k2 : Nat) (fr13 : Int32) (ff14 : Int → Int) (ff15 : Int → Int) (ff16 : Nat → Int32) (z17 : Int) (z18 : Int) (H : Heap) (locs : List Loc) (ls : Array Slot), rng (-1) 8 ff14 → rng (-1) 8 ff15 → 0 ≤ z17 → z17 ≤ 3 → (-2147483648) ≤ z18 → z18 ≤ 2147483647 → ((x3 - z17) : Int).toNat < k2 → WD D A s.heap [(a0, .inr (7, [.ref a2, .ref a3, .ref a4, .ref a5, .int fr1, .int r1, .int fr13, .int fr3])), (a1, .inr (9, [.ref a6, .ref a7, .ref a8, .ref a9, .ref a10, .ref a11, .ref a12, .ref a13, .ref a14, .int (iI x2), .int (iI x3), .int (iI x4), .int (iI x5), .int (iI x6), .int (iI x7), .int (iI x8), .int (iI x9), .int (iI x10)])), (a2, .inl (T 0, 9, .inl ff4)), (a3, .inl (T 0, 9, .inl (cI ff14))), (a4, .inl (T 0, 9, .inl (cI ff15))), (a5, .inl (T 0, 3, .inl ff16)), (a7, .inl (T 0, 9, .inl (cI f4))), (a8, .inl (T 0, 9, .inl (cI f5))), (a10, .inl (T 0, 9, .inl (cI f6))), (a14, .inl (T 0, 3, .inl (cI f7)))] H locs → lv_has ls 7 [(6, .int (iI z17)), (5, .int (iI z18)), (4, .int (iI z9)), (0, .ref a0), (1, .ref a1), (2, .int (iI x0)), (3, .int (iI x1))] → W p l e (Rm 4 0 0) s m args below meth c H locs 0 0 Q (F0 m 25 ls []) := by
            intro k2
            induction k2 with
            | zero => intro fr13 ff14 ff15 ff16 z17 z18 H locs ls ff14_h ff15_h z17_a z17_b z18_a z18_b hm; exact absurd hm (Nat.not_lt_zero _)
            | succ k2 ih2 =>
              intro fr13 ff14 ff15 ff16 z17 z18 H locs ls ff14_h ff15_h z17_a z17_b z18_a z18_b hm2 w hl
              refine lv_iload hx hb dX7_drawDays_25 (lv_at hl 0 rfl) ?_
              refine lv_aload_n hx hb dX7_drawDays_27 rfl (lv_at hl 4 rfl) ?_
              refine r_getN (v := .int (iI x3)) M w 1 10 clX9 rfl (by decide) N394 rfl rfl dX7_drawDays_28 ?_
              refine lv_icmp_ge (tgt := 51) hx hb dX7_drawDays_31 (by decide) (fun c_19 => ?_) (fun c_19 => ?_)
              · replace c_19 := (iI_le (Int.le_trans (by decide) x3_a) (Int.le_trans x3_b (by decide)) (Int.le_trans (by decide) z17_a) (Int.le_trans z17_b (by decide))).mp c_19
                refine lv_aload_n hx hb dX7_drawDays_51 rfl (lv_at hl 3 rfl) ?_
                refine lv_aload_n hx hb dX7_drawDays_52 rfl (lv_at hl 4 rfl) ?_
                refine k_V (ce := 0) (sl := 0) (rest := []) (wr := [(a7, .inl (T 0, 9, .inl (cI f4))), (a8, .inl (T 0, 9, .inl (cI f5))), (a10, .inl (T 0, 9, .inl (cI f6))), (a14, .inl (T 0, 3, .inl (cI f7)))]) (r_V (f := 2) [0, 1, 2, 3, 4, 5] M w V_HookedCity_State_77 G910 G20 (c233_X7_passDay l D T _ a0 a1 a2 a3 a4 a5 fr1 r1 fr13 fr3 a6 a7 a8 a9 a10 a11 a12 a13 a14 x2 x3 x4 x5 x6 x7 x8 x9 x10 ff4 ff14 ff15 ff16 x2_a x2_b x3_a x3_b x4_a x4_b x5_a x5_b x6_a x6_b x7_a x7_b x8_a x8_b x9_a x9_b x10_a x10_b ff14_h ff15_h) 0 clX7 rfl rfl (by decide) rfl hl.1 rfl (Nat.le_of_ble_eq_true rfl) dX7_drawDays_53 (by decide) (by decide) (by decide) (by decide)) w [0, 1, 2, 3, 4, 5] [6, 7, 8, 9] rfl rfl (by decide) (by decide) rfl rfl (fun u H locs hp w => ?_)
                obtain ⟨fr20, fr21, ff22, ff23, ff24, ff25⟩ := u
                have ff23_h : rng (-1) 8 ff23 := hp.1
                have ff24_h : rng (-1) 8 ff24 := hp.2
                have w : WD D A s.heap [(a7, .inl (T 0, 9, .inl (cI f4))), (a8, .inl (T 0, 9, .inl (cI f5))), (a10, .inl (T 0, 9, .inl (cI f6))), (a14, .inl (T 0, 3, .inl (cI f7))), (a0, .inr (7, [.ref a2, .ref a3, .ref a4, .ref a5, .int fr20, .int r1, .int fr13, .int fr21])), (a1, .inr (9, [.ref a6, .ref a7, .ref a8, .ref a9, .ref a10, .ref a11, .ref a12, .ref a13, .ref a14, .int (iI x2), .int (iI x3), .int (iI x4), .int (iI x5), .int (iI x6), .int (iI x7), .int (iI x8), .int (iI x9), .int (iI x10)])), (a2, .inl (T 0, 9, .inl ff22)), (a3, .inl (T 0, 9, .inl (cI ff23))), (a4, .inl (T 0, 9, .inl (cI ff24))), (a5, .inl (T 0, 3, .inl ff25))] H locs := w
                refine lv_iinc (v := iI (z9 + 1)) (lv' := [(4, .int (iI (z9 + 1))), (6, .int (iI z17)), (5, .int (iI z18)), (0, .ref a0), (1, .ref a1), (2, .int (iI x0)), (3, .int (iI x1))]) hx hb dX7_drawDays_56 hl (k := 2) rfl (ii_inc (by decide +kernel)) (by decide) rfl (fun ls hl => ?_)
                refine lv_goto (tgt := 6) hx hb dX7_drawDays_59 (by decide) ?_
                exact ih1 fr20 fr13 fr21 ff22 ff23 ff24 ff25 z18 (z9 + 1) _ _ _ ff23_h ff24_h z18_a z18_b (by omega) (by omega) (by omega) (w.sub [4, 5, 6, 7, 8, 9, 0, 1, 2, 3] (by decide) rfl) (lv_sub hl [2, 0, 3, 4, 5, 6] rfl)
              · replace c_19 : z17 < x3 := Int.not_le.mp (fun h => c_19 ((iI_le (Int.le_trans (by decide) x3_a) (Int.le_trans x3_b (by decide)) (Int.le_trans (by decide) z17_a) (Int.le_trans z17_b (by decide))).mpr h))
                refine lv_aload_n hx hb dX7_drawDays_34 rfl (lv_at hl 3 rfl) ?_
                refine lv_aload_n hx hb dX7_drawDays_35 rfl (lv_at hl 4 rfl) ?_
                refine lv_iload hx hb dX7_drawDays_36 (lv_at hl 0 rfl) ?_
                refine lv_iload hx hb dX7_drawDays_38 (lv_at hl 1 rfl) ?_
                refine k_I (ce := 0) (sl := 0) (rest := []) (wr := []) (r_V (f := 3) [0, 1, 2, 3, 4, 5, 6, 7, 8, 9] M w V_HookedCity_State_94 G1142 G29 (c237_X7_drawAct l D T _ a0 a1 z17 z18 a2 a3 a4 a5 fr1 r1 fr13 fr3 a6 a7 a8 a9 a10 a11 a12 a13 a14 x2 x3 x4 x5 x6 x7 x8 x9 x10 ff4 ff14 ff15 ff16 f4 f5 f6 f7 (by omega) (by omega) z18_a z18_b x2_a x2_b x3_a x3_b x4_a x4_b x5_a x5_b x6_a x6_b x7_a x7_b x8_a x8_b x9_a x9_b x10_a x10_b ff14_h ff15_h f4_h f5_h f6_h f7_h) 0 clX7 rfl rfl (by decide) rfl hl.1 rfl (Nat.le_of_ble_eq_true rfl) dX7_drawDays_40 (by decide) (by decide) (by decide) (by decide)) w [0, 1, 2, 3, 4, 5, 6, 7, 8, 9] [] rfl rfl (by decide) (by decide) rfl rfl (fun v u H locs hp w => ?_)
                obtain ⟨z26, fr27, ff28, ff29, ff30⟩ := u
                have hv : iI z26 = v := hp.1
                subst hv
                have z26_a : (-2147483648) ≤ z26 := hp.2.1
                have z26_b : z26 ≤ 2147483647 := hp.2.2.1
                have ff28_h : rng (-1) 8 ff28 := hp.2.2.2.1
                have ff29_h : rng (-1) 8 ff29 := hp.2.2.2.2
                have w : WD D A s.heap [(a0, .inr (7, [.ref a2, .ref a3, .ref a4, .ref a5, .int fr1, .int r1, .int fr27, .int fr3])), (a1, .inr (9, [.ref a6, .ref a7, .ref a8, .ref a9, .ref a10, .ref a11, .ref a12, .ref a13, .ref a14, .int (iI x2), .int (iI x3), .int (iI x4), .int (iI x5), .int (iI x6), .int (iI x7), .int (iI x8), .int (iI x9), .int (iI x10)])), (a2, .inl (T 0, 9, .inl ff4)), (a3, .inl (T 0, 9, .inl (cI ff28))), (a4, .inl (T 0, 9, .inl (cI ff29))), (a5, .inl (T 0, 3, .inl ff30)), (a7, .inl (T 0, 9, .inl (cI f4))), (a8, .inl (T 0, 9, .inl (cI f5))), (a10, .inl (T 0, 9, .inl (cI f6))), (a14, .inl (T 0, 3, .inl (cI f7)))] H locs := w
                refine lv_istore (lv' := [(5, .int (iI z26)), (6, .int (iI z17)), (4, .int (iI z9)), (0, .ref a0), (1, .ref a1), (2, .int (iI x0)), (3, .int (iI x1))]) hx hb dX7_drawDays_43 hl (by decide) rfl (fun ls hl => ?_)
                refine lv_iinc (v := iI (z17 + 1)) (lv' := [(6, .int (iI (z17 + 1))), (5, .int (iI z26)), (4, .int (iI z9)), (0, .ref a0), (1, .ref a1), (2, .int (iI x0)), (3, .int (iI x1))]) hx hb dX7_drawDays_45 hl (k := 1) rfl (ii_inc (by decide +kernel)) (by decide) rfl (fun ls hl => ?_)
                refine lv_goto (tgt := 25) hx hb dX7_drawDays_48 (by decide) ?_
                exact ih2 fr27 ff28 ff29 ff30 (z17 + 1) z26 _ _ _ ff28_h ff29_h (by omega) (by omega) z26_a z26_b (by omega) w (lv_sub hl [0, 1, 2, 3, 4, 5, 6] rfl)
          exact loop2 (((x3 - 0) : Int).toNat + 1) fr2 ff5 ff6 ff7 0 z8 _ _ _ ff5_h ff6_h (by decide) (by decide) z8_a z8_b (Nat.lt_succ_self _) w (lv_sub hl [0, 1, 2, 3, 4, 5, 6] rfl)
  exact loop1 (((x0 - 0) : Int).toNat + 1) r0 r2 r3 f0 f1 f2 f3 x1 0 _ _ _ f1_h f2_h x1_a x1_b (by decide) (by decide) (Nat.lt_succ_self _) w (lv_sub hl [0, 1, 2, 3, 4, 5] rfl)
set_option maxRecDepth 100000 in
set_option maxHeartbeats 4000000 in
theorem c239_X7_chainOf (l : Launch) (D : va_G) (T : Nat → ClassId) (sz : Nat) (a0 : Nat) (x0 : Int) (a1 : Nat) (a2 : Nat) (a3 : Nat) (a4 : Nat) (r0 : Int32) (r1 : Int32) (r2 : Int32) (r3 : Int32) (f0 : Int → Int) (x0_a : 0 ≤ x0) (x0_b : x0 ≤ 8) (f0_h : rng (-1) 8 f0) : Met l yX7_chainOf (Cond.code yX7_chainOf cX7_chainOf 4 (some .int) :: GW) (Rm 0 0 0) (cPre [.ref a0, .int (iI x0)] D T [(a0, .inr (7, [.ref a1, .ref a2, .ref a3, .ref a4, .int r0, .int r1, .int r2, .int r3])), (a2, .inl (T 0, 9, .inl (cI f0)))] sz) (qI D [(a0, .inr (7, [.ref a1, .ref a2, .ref a3, .ref a4, .int r0, .int r1, .int r2, .int r3])), (a2, .inl (T 0, 9, .inl (cI f0)))] sz (fun (v : Int32) (u : Int) => iI u = v ∧ (-2147483648) ≤ u ∧ u ≤ 2147483647) (fun u => [(a0, .inr (7, [.ref a1, .ref a2, .ref a3, .ref a4, .int r0, .int r1, .int r2, .int r3])), (a2, .inl (T 0, 9, .inl (cI f0)))])) 0 0 (va_A [(a0, .inr (7, [.ref a1, .ref a2, .ref a3, .ref a4, .int r0, .int r1, .int r2, .int r3])), (a2, .inl (T 0, 9, .inl (cI f0)))] sz) := by
  refine e_I (by decide) (Nat.le_of_ble_eq_true rfl) ?_
  intro p e s m args below meth c A Q ls M hin w ret hl
  have hx := M.1.1
  have hb := M.1.2.1
  have hl : lv_has ls 4 [(0, .ref a0), (1, .int (iI x0))] := hl
  refine lv_iconst (v := iI 0) hx hb dX7_chainOf_0 (by decide +kernel) ?_
  refine lv_istore_n (lv' := [(2, .int (iI 0)), (0, .ref a0), (1, .int (iI x0))]) hx hb dX7_chainOf_1 rfl hl (by decide) rfl (fun ls hl => ?_)
  refine lv_aload_n hx hb dX7_chainOf_2 rfl (lv_at hl 1 rfl) ?_
  refine r_get (v := .ref a2) M w 0 1 clX7 rfl (by decide) G220 rfl rfl dX7_chainOf_3 ?_
  refine lv_iload_n hx hb dX7_chainOf_6 rfl (lv_at hl 2 rfl) ?_
  refine r_iald (v := iI (f0 x0)) M w 1 rfl (iI_in (by omega) (by omega) (by decide)) (cI_at (by omega) (by omega)) dX7_chainOf_7 ?_
  have hh1 : (-1) ≤ (f0 x0) ∧ (f0 x0) ≤ 8 := f0_h x0
  refine lv_istore_n (lv' := [(3, .int (iI (f0 x0))), (2, .int (iI 0)), (0, .ref a0), (1, .int (iI x0))]) hx hb dX7_chainOf_8 rfl hl (by decide) rfl (fun ls hl => ?_)
  have loop1 : ∀ (k1 : Nat) (z2 : Int) (z3 : Int) (H : Heap) (locs : List Loc) (ls : Array Slot), (-1) ≤ z2 → z2 ≤ 8 → 0 ≤ z3 → z3 ≤ 9 → ((9 - z3) : Int).toNat < k1 → WD D A s.heap [(a0, .inr (7, [.ref a1, .ref a2, .ref a3, .ref a4, .int r0, .int r1, .int r2, .int r3])), (a2, .inl (T 0, 9, .inl (cI f0)))] H locs → lv_has ls 4 [(3, .int (iI z2)), (2, .int (iI z3)), (0, .ref a0), (1, .int (iI x0))] → W p l e (Rm 0 0 0) s m args below meth c H locs 0 0 Q (F0 m 9 ls []) := by
    intro k1
    induction k1 with
    | zero => intro z2 z3 H locs ls z2_a z2_b z3_a z3_b hm; exact absurd hm (Nat.not_lt_zero _)
    | succ k1 ih1 =>
      intro z2 z3 H locs ls z2_a z2_b z3_a z3_b hm1 w hl
      refine lv_iload_n hx hb dX7_chainOf_9 rfl (lv_at hl 0 rfl) ?_
      refine lv_iconst (v := iI (-1)) hx hb dX7_chainOf_10 (by decide +kernel) ?_
      refine lv_icmp_eq (tgt := 38) hx hb dX7_chainOf_11 (by decide) (fun c_4 => ?_) (fun c_4 => ?_)
      · replace c_4 := (iI_eq (Int.le_trans (by decide) z2_a) (Int.le_trans z2_b (by decide)) (by decide) (by decide)).mp c_4
        refine lv_iload_n hx hb dX7_chainOf_38 rfl (lv_at hl 1 rfl) ?_
        exact ret _ z3 _ _ _ _ _ [0, 1] dX7_chainOf_39 ⟨rfl, (show (-2147483648) ≤ z3 from by omega), (show z3 ≤ 2147483647 from by omega)⟩ w (by decide) rfl
      · replace c_4 : ¬ z2 = (-1) := fun h => c_4 ((iI_eq (Int.le_trans (by decide) z2_a) (Int.le_trans z2_b (by decide)) (by decide) (by decide)).mpr h)
        refine lv_iload_n hx hb dX7_chainOf_14 rfl (lv_at hl 0 rfl) ?_
        refine lv_iload_n hx hb dX7_chainOf_15 rfl (lv_at hl 3 rfl) ?_
        refine lv_icmp_eq (tgt := 38) hx hb dX7_chainOf_16 (by decide) (fun c_5 => ?_) (fun c_5 => ?_)
        · replace c_5 := (iI_eq (Int.le_trans (by decide) z2_a) (Int.le_trans z2_b (by decide)) (Int.le_trans (by decide) x0_a) (Int.le_trans x0_b (by decide))).mp c_5
          refine lv_iload_n hx hb dX7_chainOf_38 rfl (lv_at hl 1 rfl) ?_
          exact ret _ z3 _ _ _ _ _ [0, 1] dX7_chainOf_39 ⟨rfl, (show (-2147483648) ≤ z3 from by omega), (show z3 ≤ 2147483647 from by omega)⟩ w (by decide) rfl
        · replace c_5 : ¬ z2 = x0 := fun h => c_5 ((iI_eq (Int.le_trans (by decide) z2_a) (Int.le_trans z2_b (by decide)) (Int.le_trans (by decide) x0_a) (Int.le_trans x0_b (by decide))).mpr h)
          refine lv_iload_n hx hb dX7_chainOf_19 rfl (lv_at hl 1 rfl) ?_
          refine lv_bipush (v := iI 9) hx hb dX7_chainOf_20 (by decide +kernel) ?_
          refine lv_icmp_ge (tgt := 38) hx hb dX7_chainOf_22 (by decide) (fun c_6 => ?_) (fun c_6 => ?_)
          · replace c_6 := (iI_le (by decide) (by decide) (Int.le_trans (by decide) z3_a) (Int.le_trans z3_b (by decide))).mp c_6
            refine lv_iload_n hx hb dX7_chainOf_38 rfl (lv_at hl 1 rfl) ?_
            exact ret _ z3 _ _ _ _ _ [0, 1] dX7_chainOf_39 ⟨rfl, (show (-2147483648) ≤ z3 from by omega), (show z3 ≤ 2147483647 from by omega)⟩ w (by decide) rfl
          · replace c_6 : z3 < 9 := Int.not_le.mp (fun h => c_6 ((iI_le (by decide) (by decide) (Int.le_trans (by decide) z3_a) (Int.le_trans z3_b (by decide))).mpr h))
            refine lv_iinc (v := iI (z3 + 1)) (lv' := [(2, .int (iI (z3 + 1))), (3, .int (iI z2)), (0, .ref a0), (1, .int (iI x0))]) hx hb dX7_chainOf_25 hl (k := 1) rfl (ii_inc (by decide +kernel)) (by decide) rfl (fun ls hl => ?_)
            refine lv_aload_n hx hb dX7_chainOf_28 rfl (lv_at hl 2 rfl) ?_
            refine r_get (v := .ref a2) M w 0 1 clX7 rfl (by decide) G220 rfl rfl dX7_chainOf_29 ?_
            refine lv_iload_n hx hb dX7_chainOf_32 rfl (lv_at hl 1 rfl) ?_
            refine r_iald (v := iI (f0 z2)) M w 1 rfl (iI_in (by omega) (by omega) (by decide)) (cI_at (by omega) (by omega)) dX7_chainOf_33 ?_
            have hh7 : (-1) ≤ (f0 z2) ∧ (f0 z2) ≤ 8 := f0_h z2
            refine lv_istore_n (lv' := [(3, .int (iI (f0 z2))), (2, .int (iI (z3 + 1))), (0, .ref a0), (1, .int (iI x0))]) hx hb dX7_chainOf_34 rfl hl (by decide) rfl (fun ls hl => ?_)
            refine lv_goto (tgt := 9) hx hb dX7_chainOf_35 (by decide) ?_
            exact ih1 (f0 z2) (z3 + 1) _ _ _ (by omega) (by omega) (by omega) (by omega) (by omega) w (lv_sub hl [0, 1, 2, 3] rfl)
  exact loop1 ((9 : Int).toNat + 1) (f0 x0) 0 _ _ _ (by omega) (by omega) (by decide) (by decide) (Nat.lt_succ_self _) w (lv_sub hl [0, 1, 2, 3] rfl)
set_option maxRecDepth 100000 in
set_option maxHeartbeats 4000000 in
theorem c240_X7_onRing (l : Launch) (D : va_G) (T : Nat → ClassId) (sz : Nat) (a0 : Nat) (x0 : Int) (a1 : Nat) (a2 : Nat) (a3 : Nat) (a4 : Nat) (r0 : Int32) (r1 : Int32) (r2 : Int32) (r3 : Int32) (f0 : Int → Int) (x0_a : 0 ≤ x0) (x0_b : x0 ≤ 8) (f0_h : rng (-1) 8 f0) : Met l yX7_onRing (Cond.code yX7_onRing cX7_onRing 4 (some .boolean) :: GW) (Rm 0 0 0) (cPre [.ref a0, .int (iI x0)] D T [(a0, .inr (7, [.ref a1, .ref a2, .ref a3, .ref a4, .int r0, .int r1, .int r2, .int r3])), (a2, .inl (T 0, 9, .inl (cI f0)))] sz) (qI D [(a0, .inr (7, [.ref a1, .ref a2, .ref a3, .ref a4, .int r0, .int r1, .int r2, .int r3])), (a2, .inl (T 0, 9, .inl (cI f0)))] sz (fun (v : Int32) (u : Int) => iI u = v ∧ 0 ≤ u ∧ u ≤ 1) (fun u => [(a0, .inr (7, [.ref a1, .ref a2, .ref a3, .ref a4, .int r0, .int r1, .int r2, .int r3])), (a2, .inl (T 0, 9, .inl (cI f0)))])) 0 0 (va_A [(a0, .inr (7, [.ref a1, .ref a2, .ref a3, .ref a4, .int r0, .int r1, .int r2, .int r3])), (a2, .inl (T 0, 9, .inl (cI f0)))] sz) := by
  refine e_Z (by decide) (Nat.le_of_ble_eq_true rfl) ?_
  intro p e s m args below meth c A Q ls M hin w ret hl
  have hx := M.1.1
  have hb := M.1.2.1
  have hl : lv_has ls 4 [(0, .ref a0), (1, .int (iI x0))] := hl
  refine lv_aload_n hx hb dX7_onRing_0 rfl (lv_at hl 0 rfl) ?_
  refine r_get (v := .ref a2) M w 0 1 clX7 rfl (by decide) G220 rfl rfl dX7_onRing_1 ?_
  refine lv_iload_n hx hb dX7_onRing_4 rfl (lv_at hl 1 rfl) ?_
  refine r_iald (v := iI (f0 x0)) M w 1 rfl (iI_in (by omega) (by omega) (by decide)) (cI_at (by omega) (by omega)) dX7_onRing_5 ?_
  have hh1 : (-1) ≤ (f0 x0) ∧ (f0 x0) ≤ 8 := f0_h x0
  refine lv_istore_n (lv' := [(2, .int (iI (f0 x0))), (0, .ref a0), (1, .int (iI x0))]) hx hb dX7_onRing_6 rfl hl (by decide) rfl (fun ls hl => ?_)
  refine lv_iconst (v := iI 0) hx hb dX7_onRing_7 (by decide +kernel) ?_
  refine lv_istore_n (lv' := [(3, .int (iI 0)), (2, .int (iI (f0 x0))), (0, .ref a0), (1, .int (iI x0))]) hx hb dX7_onRing_8 rfl hl (by decide) rfl (fun ls hl => ?_)
  have loop1 : ∀ (k1 : Nat) (z2 : Int) (z3 : Int) (H : Heap) (locs : List Loc) (ls : Array Slot), 0 ≤ z2 → z2 ≤ 9 → (-1) ≤ z3 → z3 ≤ 8 → ((9 - z2) : Int).toNat < k1 → WD D A s.heap [(a0, .inr (7, [.ref a1, .ref a2, .ref a3, .ref a4, .int r0, .int r1, .int r2, .int r3])), (a2, .inl (T 0, 9, .inl (cI f0)))] H locs → lv_has ls 4 [(3, .int (iI z2)), (2, .int (iI z3)), (0, .ref a0), (1, .int (iI x0))] → W p l e (Rm 0 0 0) s m args below meth c H locs 0 0 Q (F0 m 9 ls []) := by
    intro k1
    induction k1 with
    | zero => intro z2 z3 H locs ls z2_a z2_b z3_a z3_b hm; exact absurd hm (Nat.not_lt_zero _)
    | succ k1 ih1 =>
      intro z2 z3 H locs ls z2_a z2_b z3_a z3_b hm1 w hl
      refine lv_iload_n hx hb dX7_onRing_9 rfl (lv_at hl 0 rfl) ?_
      refine lv_bipush (v := iI 9) hx hb dX7_onRing_10 (by decide +kernel) ?_
      refine lv_icmp_ge (tgt := 38) hx hb dX7_onRing_12 (by decide) (fun c_4 => ?_) (fun c_4 => ?_)
      · replace c_4 := (iI_le (by decide) (by decide) (Int.le_trans (by decide) z2_a) (Int.le_trans z2_b (by decide))).mp c_4
        refine lv_iload_n hx hb dX7_onRing_38 rfl (lv_at hl 1 rfl) ?_
        refine lv_iload_n hx hb dX7_onRing_39 rfl (lv_at hl 3 rfl) ?_
        refine lv_icmp_ne (tgt := 47) hx hb dX7_onRing_40 (by decide) (fun c_5 => ?_) (fun c_5 => ?_)
        · replace c_5 : ¬ z3 = x0 := fun h => c_5 ((iI_eq (Int.le_trans (by decide) z3_a) (Int.le_trans z3_b (by decide)) (Int.le_trans (by decide) x0_a) (Int.le_trans x0_b (by decide))).mpr h)
          refine lv_iconst (v := iI 0) hx hb dX7_onRing_47 (by decide +kernel) ?_
          exact ret _ 0 _ _ _ _ _ [0, 1] dX7_onRing_48 (by decide +kernel) ⟨rfl, (show (0 : Int) ≤ 0 from by decide), (show (0 : Int) ≤ 1 from by decide)⟩ w (by decide) rfl
        · replace c_5 := (iI_eq (Int.le_trans (by decide) z3_a) (Int.le_trans z3_b (by decide)) (Int.le_trans (by decide) x0_a) (Int.le_trans x0_b (by decide))).mp c_5
          refine lv_iconst (v := iI 1) hx hb dX7_onRing_43 (by decide +kernel) ?_
          refine lv_goto (tgt := 48) hx hb dX7_onRing_44 (by decide) ?_
          exact ret _ 1 _ _ _ _ _ [0, 1] dX7_onRing_48 (by decide +kernel) ⟨rfl, (show (0 : Int) ≤ 1 from by decide), (show (1 : Int) ≤ 1 from by decide)⟩ w (by decide) rfl
      · replace c_4 : z2 < 9 := Int.not_le.mp (fun h => c_4 ((iI_le (by decide) (by decide) (Int.le_trans (by decide) z2_a) (Int.le_trans z2_b (by decide))).mpr h))
        refine lv_iload_n hx hb dX7_onRing_15 rfl (lv_at hl 1 rfl) ?_
        refine lv_iconst (v := iI (-1)) hx hb dX7_onRing_16 (by decide +kernel) ?_
        refine lv_icmp_eq (tgt := 38) hx hb dX7_onRing_17 (by decide) (fun c_6 => ?_) (fun c_6 => ?_)
        · replace c_6 := (iI_eq (Int.le_trans (by decide) z3_a) (Int.le_trans z3_b (by decide)) (by decide) (by decide)).mp c_6
          refine lv_iload_n hx hb dX7_onRing_38 rfl (lv_at hl 1 rfl) ?_
          refine lv_iload_n hx hb dX7_onRing_39 rfl (lv_at hl 3 rfl) ?_
          refine lv_icmp_ne (tgt := 47) hx hb dX7_onRing_40 (by decide) (fun c_7 => ?_) (fun c_7 => ?_)
          · replace c_7 : ¬ z3 = x0 := fun h => c_7 ((iI_eq (Int.le_trans (by decide) z3_a) (Int.le_trans z3_b (by decide)) (Int.le_trans (by decide) x0_a) (Int.le_trans x0_b (by decide))).mpr h)
            refine lv_iconst (v := iI 0) hx hb dX7_onRing_47 (by decide +kernel) ?_
            exact ret _ 0 _ _ _ _ _ [0, 1] dX7_onRing_48 (by decide +kernel) ⟨rfl, (show (0 : Int) ≤ 0 from by decide), (show (0 : Int) ≤ 1 from by decide)⟩ w (by decide) rfl
          · replace c_7 := (iI_eq (Int.le_trans (by decide) z3_a) (Int.le_trans z3_b (by decide)) (Int.le_trans (by decide) x0_a) (Int.le_trans x0_b (by decide))).mp c_7
            exfalso; omega
        · replace c_6 : ¬ z3 = (-1) := fun h => c_6 ((iI_eq (Int.le_trans (by decide) z3_a) (Int.le_trans z3_b (by decide)) (by decide) (by decide)).mpr h)
          refine lv_iload_n hx hb dX7_onRing_20 rfl (lv_at hl 1 rfl) ?_
          refine lv_iload_n hx hb dX7_onRing_21 rfl (lv_at hl 3 rfl) ?_
          refine lv_icmp_eq (tgt := 38) hx hb dX7_onRing_22 (by decide) (fun c_8 => ?_) (fun c_8 => ?_)
          · replace c_8 := (iI_eq (Int.le_trans (by decide) z3_a) (Int.le_trans z3_b (by decide)) (Int.le_trans (by decide) x0_a) (Int.le_trans x0_b (by decide))).mp c_8
            refine lv_iload_n hx hb dX7_onRing_38 rfl (lv_at hl 1 rfl) ?_
            refine lv_iload_n hx hb dX7_onRing_39 rfl (lv_at hl 3 rfl) ?_
            refine lv_icmp_ne (tgt := 47) hx hb dX7_onRing_40 (by decide) (fun c_9 => ?_) (fun c_9 => ?_)
            · replace c_9 : ¬ z3 = x0 := fun h => c_9 ((iI_eq (Int.le_trans (by decide) z3_a) (Int.le_trans z3_b (by decide)) (Int.le_trans (by decide) x0_a) (Int.le_trans x0_b (by decide))).mpr h)
              exfalso; omega
            · replace c_9 := (iI_eq (Int.le_trans (by decide) z3_a) (Int.le_trans z3_b (by decide)) (Int.le_trans (by decide) x0_a) (Int.le_trans x0_b (by decide))).mp c_9
              refine lv_iconst (v := iI 1) hx hb dX7_onRing_43 (by decide +kernel) ?_
              refine lv_goto (tgt := 48) hx hb dX7_onRing_44 (by decide) ?_
              exact ret _ 1 _ _ _ _ _ [0, 1] dX7_onRing_48 (by decide +kernel) ⟨rfl, (show (0 : Int) ≤ 1 from by decide), (show (1 : Int) ≤ 1 from by decide)⟩ w (by decide) rfl
          · replace c_8 : ¬ z3 = x0 := fun h => c_8 ((iI_eq (Int.le_trans (by decide) z3_a) (Int.le_trans z3_b (by decide)) (Int.le_trans (by decide) x0_a) (Int.le_trans x0_b (by decide))).mpr h)
            refine lv_aload_n hx hb dX7_onRing_25 rfl (lv_at hl 2 rfl) ?_
            refine r_get (v := .ref a2) M w 0 1 clX7 rfl (by decide) G220 rfl rfl dX7_onRing_26 ?_
            refine lv_iload_n hx hb dX7_onRing_29 rfl (lv_at hl 1 rfl) ?_
            refine r_iald (v := iI (f0 z3)) M w 1 rfl (iI_in (by omega) (by omega) (by decide)) (cI_at (by omega) (by omega)) dX7_onRing_30 ?_
            have hh10 : (-1) ≤ (f0 z3) ∧ (f0 z3) ≤ 8 := f0_h z3
            refine lv_istore_n (lv' := [(2, .int (iI (f0 z3))), (3, .int (iI z2)), (0, .ref a0), (1, .int (iI x0))]) hx hb dX7_onRing_31 rfl hl (by decide) rfl (fun ls hl => ?_)
            refine lv_iinc (v := iI (z2 + 1)) (lv' := [(3, .int (iI (z2 + 1))), (2, .int (iI (f0 z3))), (0, .ref a0), (1, .int (iI x0))]) hx hb dX7_onRing_32 hl (k := 1) rfl (ii_inc (by decide +kernel)) (by decide) rfl (fun ls hl => ?_)
            refine lv_goto (tgt := 9) hx hb dX7_onRing_35 (by decide) ?_
            exact ih1 (z2 + 1) (f0 z3) _ _ _ (by omega) (by omega) (by omega) (by omega) (by omega) w (lv_sub hl [0, 1, 2, 3] rfl)
  exact loop1 ((9 : Int).toNat + 1) 0 (f0 x0) _ _ _ (by decide) (by decide) (by omega) (by omega) (Nat.lt_succ_self _) w (lv_sub hl [0, 1, 2, 3] rfl)
set_option maxRecDepth 100000 in
set_option maxHeartbeats 4000000 in
theorem c241_X7_togetherWith (l : Launch) (D : va_G) (T : Nat → ClassId) (sz : Nat) (a0 : Nat) (x0 : Int) (a1 : Nat) (a2 : Nat) (a3 : Nat) (a4 : Nat) (r0 : Int32) (r1 : Int32) (r2 : Int32) (r3 : Int32) (f0 : Int → Int) (f1 : Int → Int) (x0_a : 0 ≤ x0) (x0_b : x0 ≤ 8) (f0_h : rng (-1) 8 f0) (f1_h : rng (-1) 8 f1) : Met l yX7_togetherWith (Cond.code yX7_togetherWith cX7_togetherWith 5 (some .int) :: GW) (Rm 0 0 0) (cPre [.ref a0, .int (iI x0)] D T [(a0, .inr (7, [.ref a1, .ref a2, .ref a3, .ref a4, .int r0, .int r1, .int r2, .int r3])), (a2, .inl (T 0, 9, .inl (cI f0))), (a3, .inl (T 0, 9, .inl (cI f1)))] sz) (qI D [(a0, .inr (7, [.ref a1, .ref a2, .ref a3, .ref a4, .int r0, .int r1, .int r2, .int r3])), (a2, .inl (T 0, 9, .inl (cI f0))), (a3, .inl (T 0, 9, .inl (cI f1)))] sz (fun (v : Int32) (u : Int) => iI u = v ∧ (-2147483648) ≤ u ∧ u ≤ 2147483647) (fun u => [(a0, .inr (7, [.ref a1, .ref a2, .ref a3, .ref a4, .int r0, .int r1, .int r2, .int r3])), (a2, .inl (T 0, 9, .inl (cI f0))), (a3, .inl (T 0, 9, .inl (cI f1)))])) 0 0 (va_A [(a0, .inr (7, [.ref a1, .ref a2, .ref a3, .ref a4, .int r0, .int r1, .int r2, .int r3])), (a2, .inl (T 0, 9, .inl (cI f0))), (a3, .inl (T 0, 9, .inl (cI f1)))] sz) := by
  refine e_I (by decide) (Nat.le_of_ble_eq_true rfl) ?_
  intro p e s m args below meth c A Q ls M hin w ret hl
  have hx := M.1.1
  have hb := M.1.2.1
  have hl : lv_has ls 5 [(0, .ref a0), (1, .int (iI x0))] := hl
  refine lv_iconst (v := iI 1) hx hb dX7_togetherWith_0 (by decide +kernel) ?_
  refine lv_iload_n hx hb dX7_togetherWith_1 rfl (lv_at hl 1 rfl) ?_
  refine r_ishl (v := _) M rfl dX7_togetherWith_2 ?_
  refine b_rng (lo := 1) (hi := 256) (ishl_9 (by omega) (by omega)) (fun z1 z1_a z1_b => ?_)
  refine lv_istore_n (lv' := [(2, .int (iI z1)), (0, .ref a0), (1, .int (iI x0))]) hx hb dX7_togetherWith_3 rfl hl (by decide) rfl (fun ls hl => ?_)
  refine lv_aload_n hx hb dX7_togetherWith_4 rfl (lv_at hl 1 rfl) ?_
  refine r_get (v := .ref a2) M w 0 1 clX7 rfl (by decide) G220 rfl rfl dX7_togetherWith_5 ?_
  refine lv_iload_n hx hb dX7_togetherWith_8 rfl (lv_at hl 2 rfl) ?_
  refine r_iald (v := iI (f0 x0)) M w 1 rfl (iI_in (by omega) (by omega) (by decide)) (cI_at (by omega) (by omega)) dX7_togetherWith_9 ?_
  have hh2 : (-1) ≤ (f0 x0) ∧ (f0 x0) ≤ 8 := f0_h x0
  refine lv_istore_n (lv' := [(3, .int (iI (f0 x0))), (2, .int (iI z1)), (0, .ref a0), (1, .int (iI x0))]) hx hb dX7_togetherWith_10 rfl hl (by decide) rfl (fun ls hl => ?_)
  refine lv_iconst (v := iI 0) hx hb dX7_togetherWith_11 (by decide +kernel) ?_
  refine lv_istore (lv' := [(4, .int (iI 0)), (3, .int (iI (f0 x0))), (2, .int (iI z1)), (0, .ref a0), (1, .int (iI x0))]) hx hb dX7_togetherWith_12 hl (by decide) rfl (fun ls hl => ?_)
  have loop1 : ∀ (k1 : Nat) (z3 : Int) (z4 : Int) (z5 : Int) (H : Heap) (locs : List Loc) (ls : Array Slot), 0 ≤ z3 → z3 ≤ 9 → (-1) ≤ z4 → z4 ≤ 8 → (-2147483648) ≤ z5 → z5 ≤ 2147483647 → ((9 - z3) : Int).toNat < k1 → WD D A s.heap [(a0, .inr (7, [.ref a1, .ref a2, .ref a3, .ref a4, .int r0, .int r1, .int r2, .int r3])), (a2, .inl (T 0, 9, .inl (cI f0))), (a3, .inl (T 0, 9, .inl (cI f1)))] H locs → lv_has ls 5 [(4, .int (iI z3)), (3, .int (iI z4)), (2, .int (iI z5)), (0, .ref a0), (1, .int (iI x0))] → W p l e (Rm 0 0 0) s m args below meth c H locs 0 0 Q (F0 m 14 ls []) := by
    intro k1
    induction k1 with
    | zero => intro z3 z4 z5 H locs ls z3_a z3_b z4_a z4_b z5_a z5_b hm; exact absurd hm (Nat.not_lt_zero _)
    | succ k1 ih1 =>
      intro z3 z4 z5 H locs ls z3_a z3_b z4_a z4_b z5_a z5_b hm1 w hl
      refine lv_iload hx hb dX7_togetherWith_14 (lv_at hl 0 rfl) ?_
      refine lv_bipush (v := iI 9) hx hb dX7_togetherWith_16 (by decide +kernel) ?_
      refine lv_icmp_ge (tgt := 45) hx hb dX7_togetherWith_18 (by decide) (fun c_6 => ?_) (fun c_6 => ?_)
      · replace c_6 := (iI_le (by decide) (by decide) (Int.le_trans (by decide) z3_a) (Int.le_trans z3_b (by decide))).mp c_6
        refine lv_aload_n hx hb dX7_togetherWith_45 rfl (lv_at hl 3 rfl) ?_
        refine r_get (v := .ref a3) M w 0 2 clX7 rfl (by decide) G224 rfl rfl dX7_togetherWith_46 ?_
        refine lv_iload_n hx hb dX7_togetherWith_49 rfl (lv_at hl 4 rfl) ?_
        refine r_iald (v := iI (f1 x0)) M w 2 rfl (iI_in (by omega) (by omega) (by decide)) (cI_at (by omega) (by omega)) dX7_togetherWith_50 ?_
        have hh7 : (-1) ≤ (f1 x0) ∧ (f1 x0) ≤ 8 := f1_h x0
        refine lv_istore_n (lv' := [(3, .int (iI (f1 x0))), (4, .int (iI z3)), (2, .int (iI z5)), (0, .ref a0), (1, .int (iI x0))]) hx hb dX7_togetherWith_51 rfl hl (by decide) rfl (fun ls hl => ?_)
        refine lv_iconst (v := iI 0) hx hb dX7_togetherWith_52 (by decide +kernel) ?_
        refine lv_istore (lv' := [(4, .int (iI 0)), (3, .int (iI (f1 x0))), (2, .int (iI z5)), (0, .ref a0), (1, .int (iI x0))]) hx hb dX7_togetherWith_53 hl (by decide) rfl (fun ls hl => ?_)
        have loop2 : ∀ (k2 : Nat) (z8 : Int) (z9 : Int) (z10 : Int) (H : Heap) (locs : List Loc) (ls : Array Slot), 0 ≤ z8 → z8 ≤ 9 → (-1) ≤ z9 → z9 ≤ 8 → (-2147483648) ≤ z10 → z10 ≤ 2147483647 → ((9 - z8) : Int).toNat < k2 → WD D A s.heap [(a0, .inr (7, [.ref a1, .ref a2, .ref a3, .ref a4, .int r0, .int r1, .int r2, .int r3])), (a2, .inl (T 0, 9, .inl (cI f0))), (a3, .inl (T 0, 9, .inl (cI f1)))] H locs → lv_has ls 5 [(4, .int (iI z8)), (3, .int (iI z9)), (2, .int (iI z10)), (0, .ref a0), (1, .int (iI x0))] → W p l e (Rm 0 0 0) s m args below meth c H locs 0 0 Q (F0 m 55 ls []) := by
          intro k2
          induction k2 with
          | zero => intro z8 z9 z10 H locs ls z8_a z8_b z9_a z9_b z10_a z10_b hm; exact absurd hm (Nat.not_lt_zero _)
          | succ k2 ih2 =>
            intro z8 z9 z10 H locs ls z8_a z8_b z9_a z9_b z10_a z10_b hm2 w hl
            refine lv_iload hx hb dX7_togetherWith_55 (lv_at hl 0 rfl) ?_
            refine lv_bipush (v := iI 9) hx hb dX7_togetherWith_57 (by decide +kernel) ?_
            refine lv_icmp_ge (tgt := 86) hx hb dX7_togetherWith_59 (by decide) (fun c_11 => ?_) (fun c_11 => ?_)
            · replace c_11 := (iI_le (by decide) (by decide) (Int.le_trans (by decide) z8_a) (Int.le_trans z8_b (by decide))).mp c_11
              refine lv_iload_n hx hb dX7_togetherWith_86 rfl (lv_at hl 2 rfl) ?_
              exact ret _ z10 _ _ _ _ _ [0, 1, 2] dX7_togetherWith_87 ⟨rfl, z10_a, z10_b⟩ w (by decide) rfl
            · replace c_11 : z8 < 9 := Int.not_le.mp (fun h => c_11 ((iI_le (by decide) (by decide) (Int.le_trans (by decide) z8_a) (Int.le_trans z8_b (by decide))).mpr h))
              refine lv_iload_n hx hb dX7_togetherWith_62 rfl (lv_at hl 1 rfl) ?_
              refine lv_iconst (v := iI (-1)) hx hb dX7_togetherWith_63 (by decide +kernel) ?_
              refine lv_icmp_eq (tgt := 86) hx hb dX7_togetherWith_64 (by decide) (fun c_12 => ?_) (fun c_12 => ?_)
              · replace c_12 := (iI_eq (Int.le_trans (by decide) z9_a) (Int.le_trans z9_b (by decide)) (by decide) (by decide)).mp c_12
                refine lv_iload_n hx hb dX7_togetherWith_86 rfl (lv_at hl 2 rfl) ?_
                exact ret _ z10 _ _ _ _ _ [0, 1, 2] dX7_togetherWith_87 ⟨rfl, z10_a, z10_b⟩ w (by decide) rfl
              · replace c_12 : ¬ z9 = (-1) := fun h => c_12 ((iI_eq (Int.le_trans (by decide) z9_a) (Int.le_trans z9_b (by decide)) (by decide) (by decide)).mpr h)
                refine lv_iload_n hx hb dX7_togetherWith_67 rfl (lv_at hl 2 rfl) ?_
                refine lv_iconst (v := iI 1) hx hb dX7_togetherWith_68 (by decide +kernel) ?_
                refine lv_iload_n hx hb dX7_togetherWith_69 rfl (lv_at hl 1 rfl) ?_
                refine r_ishl (v := _) M rfl dX7_togetherWith_70 ?_
                refine b_rng (lo := 1) (hi := 256) (ishl_9 (by omega) (by omega)) (fun z13 z13_a z13_b => ?_)
                refine r_ior (v := _) M rfl dX7_togetherWith_71 ?_
                refine b_any (fun z14 z14_a z14_b => ?_)
                refine lv_istore_n (lv' := [(2, .int (iI z14)), (4, .int (iI z8)), (3, .int (iI z9)), (0, .ref a0), (1, .int (iI x0))]) hx hb dX7_togetherWith_72 rfl hl (by decide) rfl (fun ls hl => ?_)
                refine lv_aload_n hx hb dX7_togetherWith_73 rfl (lv_at hl 3 rfl) ?_
                refine r_get (v := .ref a3) M w 0 2 clX7 rfl (by decide) G224 rfl rfl dX7_togetherWith_74 ?_
                refine lv_iload_n hx hb dX7_togetherWith_77 rfl (lv_at hl 2 rfl) ?_
                refine r_iald (v := iI (f1 z9)) M w 2 rfl (iI_in (by omega) (by omega) (by decide)) (cI_at (by omega) (by omega)) dX7_togetherWith_78 ?_
                have hh15 : (-1) ≤ (f1 z9) ∧ (f1 z9) ≤ 8 := f1_h z9
                refine lv_istore_n (lv' := [(3, .int (iI (f1 z9))), (2, .int (iI z14)), (4, .int (iI z8)), (0, .ref a0), (1, .int (iI x0))]) hx hb dX7_togetherWith_79 rfl hl (by decide) rfl (fun ls hl => ?_)
                refine lv_iinc (v := iI (z8 + 1)) (lv' := [(4, .int (iI (z8 + 1))), (3, .int (iI (f1 z9))), (2, .int (iI z14)), (0, .ref a0), (1, .int (iI x0))]) hx hb dX7_togetherWith_80 hl (k := 2) rfl (ii_inc (by decide +kernel)) (by decide) rfl (fun ls hl => ?_)
                refine lv_goto (tgt := 55) hx hb dX7_togetherWith_83 (by decide) ?_
                exact ih2 (z8 + 1) (f1 z9) z14 _ _ _ (by omega) (by omega) (by omega) (by omega) z14_a z14_b (by omega) w (lv_sub hl [0, 1, 2, 3, 4] rfl)
        exact loop2 ((9 : Int).toNat + 1) 0 (f1 x0) z5 _ _ _ (by decide) (by decide) (by omega) (by omega) z5_a z5_b (Nat.lt_succ_self _) w (lv_sub hl [0, 1, 2, 3, 4] rfl)
      · replace c_6 : z3 < 9 := Int.not_le.mp (fun h => c_6 ((iI_le (by decide) (by decide) (Int.le_trans (by decide) z3_a) (Int.le_trans z3_b (by decide))).mpr h))
        refine lv_iload_n hx hb dX7_togetherWith_21 rfl (lv_at hl 1 rfl) ?_
        refine lv_iconst (v := iI (-1)) hx hb dX7_togetherWith_22 (by decide +kernel) ?_
        refine lv_icmp_eq (tgt := 45) hx hb dX7_togetherWith_23 (by decide) (fun c_16 => ?_) (fun c_16 => ?_)
        · replace c_16 := (iI_eq (Int.le_trans (by decide) z4_a) (Int.le_trans z4_b (by decide)) (by decide) (by decide)).mp c_16
          refine lv_aload_n hx hb dX7_togetherWith_45 rfl (lv_at hl 3 rfl) ?_
          refine r_get (v := .ref a3) M w 0 2 clX7 rfl (by decide) G224 rfl rfl dX7_togetherWith_46 ?_
          refine lv_iload_n hx hb dX7_togetherWith_49 rfl (lv_at hl 4 rfl) ?_
          refine r_iald (v := iI (f1 x0)) M w 2 rfl (iI_in (by omega) (by omega) (by decide)) (cI_at (by omega) (by omega)) dX7_togetherWith_50 ?_
          have hh17 : (-1) ≤ (f1 x0) ∧ (f1 x0) ≤ 8 := f1_h x0
          refine lv_istore_n (lv' := [(3, .int (iI (f1 x0))), (4, .int (iI z3)), (2, .int (iI z5)), (0, .ref a0), (1, .int (iI x0))]) hx hb dX7_togetherWith_51 rfl hl (by decide) rfl (fun ls hl => ?_)
          refine lv_iconst (v := iI 0) hx hb dX7_togetherWith_52 (by decide +kernel) ?_
          refine lv_istore (lv' := [(4, .int (iI 0)), (3, .int (iI (f1 x0))), (2, .int (iI z5)), (0, .ref a0), (1, .int (iI x0))]) hx hb dX7_togetherWith_53 hl (by decide) rfl (fun ls hl => ?_)
          have loop2 : ∀ (k2 : Nat) (z18 : Int) (z19 : Int) (z20 : Int) (H : Heap) (locs : List Loc) (ls : Array Slot), 0 ≤ z18 → z18 ≤ 9 → (-1) ≤ z19 → z19 ≤ 8 → (-2147483648) ≤ z20 → z20 ≤ 2147483647 → ((9 - z18) : Int).toNat < k2 → WD D A s.heap [(a0, .inr (7, [.ref a1, .ref a2, .ref a3, .ref a4, .int r0, .int r1, .int r2, .int r3])), (a2, .inl (T 0, 9, .inl (cI f0))), (a3, .inl (T 0, 9, .inl (cI f1)))] H locs → lv_has ls 5 [(4, .int (iI z18)), (3, .int (iI z19)), (2, .int (iI z20)), (0, .ref a0), (1, .int (iI x0))] → W p l e (Rm 0 0 0) s m args below meth c H locs 0 0 Q (F0 m 55 ls []) := by
            intro k2
            induction k2 with
            | zero => intro z18 z19 z20 H locs ls z18_a z18_b z19_a z19_b z20_a z20_b hm; exact absurd hm (Nat.not_lt_zero _)
            | succ k2 ih2 =>
              intro z18 z19 z20 H locs ls z18_a z18_b z19_a z19_b z20_a z20_b hm2 w hl
              refine lv_iload hx hb dX7_togetherWith_55 (lv_at hl 0 rfl) ?_
              refine lv_bipush (v := iI 9) hx hb dX7_togetherWith_57 (by decide +kernel) ?_
              refine lv_icmp_ge (tgt := 86) hx hb dX7_togetherWith_59 (by decide) (fun c_21 => ?_) (fun c_21 => ?_)
              · replace c_21 := (iI_le (by decide) (by decide) (Int.le_trans (by decide) z18_a) (Int.le_trans z18_b (by decide))).mp c_21
                refine lv_iload_n hx hb dX7_togetherWith_86 rfl (lv_at hl 2 rfl) ?_
                exact ret _ z20 _ _ _ _ _ [0, 1, 2] dX7_togetherWith_87 ⟨rfl, z20_a, z20_b⟩ w (by decide) rfl
              · replace c_21 : z18 < 9 := Int.not_le.mp (fun h => c_21 ((iI_le (by decide) (by decide) (Int.le_trans (by decide) z18_a) (Int.le_trans z18_b (by decide))).mpr h))
                refine lv_iload_n hx hb dX7_togetherWith_62 rfl (lv_at hl 1 rfl) ?_
                refine lv_iconst (v := iI (-1)) hx hb dX7_togetherWith_63 (by decide +kernel) ?_
                refine lv_icmp_eq (tgt := 86) hx hb dX7_togetherWith_64 (by decide) (fun c_22 => ?_) (fun c_22 => ?_)
                · replace c_22 := (iI_eq (Int.le_trans (by decide) z19_a) (Int.le_trans z19_b (by decide)) (by decide) (by decide)).mp c_22
                  refine lv_iload_n hx hb dX7_togetherWith_86 rfl (lv_at hl 2 rfl) ?_
                  exact ret _ z20 _ _ _ _ _ [0, 1, 2] dX7_togetherWith_87 ⟨rfl, z20_a, z20_b⟩ w (by decide) rfl
                · replace c_22 : ¬ z19 = (-1) := fun h => c_22 ((iI_eq (Int.le_trans (by decide) z19_a) (Int.le_trans z19_b (by decide)) (by decide) (by decide)).mpr h)
                  refine lv_iload_n hx hb dX7_togetherWith_67 rfl (lv_at hl 2 rfl) ?_
                  refine lv_iconst (v := iI 1) hx hb dX7_togetherWith_68 (by decide +kernel) ?_
                  refine lv_iload_n hx hb dX7_togetherWith_69 rfl (lv_at hl 1 rfl) ?_
                  refine r_ishl (v := _) M rfl dX7_togetherWith_70 ?_
                  refine b_rng (lo := 1) (hi := 256) (ishl_9 (by omega) (by omega)) (fun z23 z23_a z23_b => ?_)
                  refine r_ior (v := _) M rfl dX7_togetherWith_71 ?_
                  refine b_any (fun z24 z24_a z24_b => ?_)
                  refine lv_istore_n (lv' := [(2, .int (iI z24)), (4, .int (iI z18)), (3, .int (iI z19)), (0, .ref a0), (1, .int (iI x0))]) hx hb dX7_togetherWith_72 rfl hl (by decide) rfl (fun ls hl => ?_)
                  refine lv_aload_n hx hb dX7_togetherWith_73 rfl (lv_at hl 3 rfl) ?_
                  refine r_get (v := .ref a3) M w 0 2 clX7 rfl (by decide) G224 rfl rfl dX7_togetherWith_74 ?_
                  refine lv_iload_n hx hb dX7_togetherWith_77 rfl (lv_at hl 2 rfl) ?_
                  refine r_iald (v := iI (f1 z19)) M w 2 rfl (iI_in (by omega) (by omega) (by decide)) (cI_at (by omega) (by omega)) dX7_togetherWith_78 ?_
                  have hh25 : (-1) ≤ (f1 z19) ∧ (f1 z19) ≤ 8 := f1_h z19
                  refine lv_istore_n (lv' := [(3, .int (iI (f1 z19))), (2, .int (iI z24)), (4, .int (iI z18)), (0, .ref a0), (1, .int (iI x0))]) hx hb dX7_togetherWith_79 rfl hl (by decide) rfl (fun ls hl => ?_)
                  refine lv_iinc (v := iI (z18 + 1)) (lv' := [(4, .int (iI (z18 + 1))), (3, .int (iI (f1 z19))), (2, .int (iI z24)), (0, .ref a0), (1, .int (iI x0))]) hx hb dX7_togetherWith_80 hl (k := 2) rfl (ii_inc (by decide +kernel)) (by decide) rfl (fun ls hl => ?_)
                  refine lv_goto (tgt := 55) hx hb dX7_togetherWith_83 (by decide) ?_
                  exact ih2 (z18 + 1) (f1 z19) z24 _ _ _ (by omega) (by omega) (by omega) (by omega) z24_a z24_b (by omega) w (lv_sub hl [0, 1, 2, 3, 4] rfl)
          exact loop2 ((9 : Int).toNat + 1) 0 (f1 x0) z5 _ _ _ (by decide) (by decide) (by omega) (by omega) z5_a z5_b (Nat.lt_succ_self _) w (lv_sub hl [0, 1, 2, 3, 4] rfl)
        · replace c_16 : ¬ z4 = (-1) := fun h => c_16 ((iI_eq (Int.le_trans (by decide) z4_a) (Int.le_trans z4_b (by decide)) (by decide) (by decide)).mpr h)
          refine lv_iload_n hx hb dX7_togetherWith_26 rfl (lv_at hl 2 rfl) ?_
          refine lv_iconst (v := iI 1) hx hb dX7_togetherWith_27 (by decide +kernel) ?_
          refine lv_iload_n hx hb dX7_togetherWith_28 rfl (lv_at hl 1 rfl) ?_
          refine r_ishl (v := _) M rfl dX7_togetherWith_29 ?_
          refine b_rng (lo := 1) (hi := 256) (ishl_9 (by omega) (by omega)) (fun z26 z26_a z26_b => ?_)
          refine r_ior (v := _) M rfl dX7_togetherWith_30 ?_
          refine b_any (fun z27 z27_a z27_b => ?_)
          refine lv_istore_n (lv' := [(2, .int (iI z27)), (4, .int (iI z3)), (3, .int (iI z4)), (0, .ref a0), (1, .int (iI x0))]) hx hb dX7_togetherWith_31 rfl hl (by decide) rfl (fun ls hl => ?_)
          refine lv_aload_n hx hb dX7_togetherWith_32 rfl (lv_at hl 3 rfl) ?_
          refine r_get (v := .ref a2) M w 0 1 clX7 rfl (by decide) G220 rfl rfl dX7_togetherWith_33 ?_
          refine lv_iload_n hx hb dX7_togetherWith_36 rfl (lv_at hl 2 rfl) ?_
          refine r_iald (v := iI (f0 z4)) M w 1 rfl (iI_in (by omega) (by omega) (by decide)) (cI_at (by omega) (by omega)) dX7_togetherWith_37 ?_
          have hh28 : (-1) ≤ (f0 z4) ∧ (f0 z4) ≤ 8 := f0_h z4
          refine lv_istore_n (lv' := [(3, .int (iI (f0 z4))), (2, .int (iI z27)), (4, .int (iI z3)), (0, .ref a0), (1, .int (iI x0))]) hx hb dX7_togetherWith_38 rfl hl (by decide) rfl (fun ls hl => ?_)
          refine lv_iinc (v := iI (z3 + 1)) (lv' := [(4, .int (iI (z3 + 1))), (3, .int (iI (f0 z4))), (2, .int (iI z27)), (0, .ref a0), (1, .int (iI x0))]) hx hb dX7_togetherWith_39 hl (k := 2) rfl (ii_inc (by decide +kernel)) (by decide) rfl (fun ls hl => ?_)
          refine lv_goto (tgt := 14) hx hb dX7_togetherWith_42 (by decide) ?_
          exact ih1 (z3 + 1) (f0 z4) z27 _ _ _ (by omega) (by omega) (by omega) (by omega) z27_a z27_b (by omega) w (lv_sub hl [0, 1, 2, 3, 4] rfl)
  exact loop1 ((9 : Int).toNat + 1) 0 (f0 x0) z1 _ _ _ (by decide) (by decide) (by omega) (by omega) (by omega) (by omega) (Nat.lt_succ_self _) w (lv_sub hl [0, 1, 2, 3, 4] rfl)
set_option maxRecDepth 100000 in
set_option maxHeartbeats 4000000 in
theorem c242_X7_partsOf (l : Launch) (D : va_G) (T : Nat → ClassId) (sz : Nat) (a0 : Nat) (a1 : Nat) (a2 : Nat) (a3 : Nat) (a4 : Nat) (a5 : Nat) (r0 : Int32) (r1 : Int32) (r2 : Int32) (r3 : Int32) (a6 : Nat) (a7 : Nat) (a8 : Nat) (a9 : Nat) (a10 : Nat) (a11 : Nat) (a12 : Nat) (a13 : Nat) (a14 : Nat) (x0 : Int) (x1 : Int) (x2 : Int) (x3 : Int) (x4 : Int) (x5 : Int) (x6 : Int) (x7 : Int) (x8 : Int) (f0 : Int → Int) (f1 : Int → Int) (x0_a : 0 ≤ x0) (x0_b : x0 ≤ 9) (x1_a : 0 ≤ x1) (x1_b : x1 ≤ 3) (x2_a : 0 ≤ x2) (x2_b : x2 ≤ 900) (x3_a : (-2147483648) ≤ x3) (x3_b : x3 ≤ 2147483647) (x4_a : (-2147483648) ≤ x4) (x4_b : x4 ≤ 2147483647) (x5_a : (-2147483648) ≤ x5) (x5_b : x5 ≤ 2147483647) (x6_a : 0 ≤ x6) (x6_b : x6 ≤ 1) (x7_a : 0 ≤ x7) (x7_b : x7 ≤ 1) (x8_a : 0 ≤ x8) (x8_b : x8 ≤ 1) (f0_h : rng (-1) 8 f0) (f1_h : rng (-1) 8 f1) : Met l yX7_partsOf (Cond.code yX7_partsOf cX7_partsOf 5 (some .int) :: GW) (Rm 1 0 0) (cPre [.ref a0, .ref a1] D T [(a0, .inr (7, [.ref a2, .ref a3, .ref a4, .ref a5, .int r0, .int r1, .int r2, .int r3])), (a1, .inr (9, [.ref a6, .ref a7, .ref a8, .ref a9, .ref a10, .ref a11, .ref a12, .ref a13, .ref a14, .int (iI x0), .int (iI x1), .int (iI x2), .int (iI x3), .int (iI x4), .int (iI x5), .int (iI x6), .int (iI x7), .int (iI x8)])), (a3, .inl (T 0, 9, .inl (cI f0))), (a4, .inl (T 0, 9, .inl (cI f1)))] sz) (qI D [(a0, .inr (7, [.ref a2, .ref a3, .ref a4, .ref a5, .int r0, .int r1, .int r2, .int r3])), (a1, .inr (9, [.ref a6, .ref a7, .ref a8, .ref a9, .ref a10, .ref a11, .ref a12, .ref a13, .ref a14, .int (iI x0), .int (iI x1), .int (iI x2), .int (iI x3), .int (iI x4), .int (iI x5), .int (iI x6), .int (iI x7), .int (iI x8)])), (a3, .inl (T 0, 9, .inl (cI f0))), (a4, .inl (T 0, 9, .inl (cI f1)))] sz (fun (v : Int32) (u : Int) => iI u = v ∧ (-2147483648) ≤ u ∧ u ≤ 2147483647) (fun u => [(a0, .inr (7, [.ref a2, .ref a3, .ref a4, .ref a5, .int r0, .int r1, .int r2, .int r3])), (a1, .inr (9, [.ref a6, .ref a7, .ref a8, .ref a9, .ref a10, .ref a11, .ref a12, .ref a13, .ref a14, .int (iI x0), .int (iI x1), .int (iI x2), .int (iI x3), .int (iI x4), .int (iI x5), .int (iI x6), .int (iI x7), .int (iI x8)])), (a3, .inl (T 0, 9, .inl (cI f0))), (a4, .inl (T 0, 9, .inl (cI f1)))])) 0 0 (va_A [(a0, .inr (7, [.ref a2, .ref a3, .ref a4, .ref a5, .int r0, .int r1, .int r2, .int r3])), (a1, .inr (9, [.ref a6, .ref a7, .ref a8, .ref a9, .ref a10, .ref a11, .ref a12, .ref a13, .ref a14, .int (iI x0), .int (iI x1), .int (iI x2), .int (iI x3), .int (iI x4), .int (iI x5), .int (iI x6), .int (iI x7), .int (iI x8)])), (a3, .inl (T 0, 9, .inl (cI f0))), (a4, .inl (T 0, 9, .inl (cI f1)))] sz) := by
  refine e_I (by decide) (Nat.le_of_ble_eq_true rfl) ?_
  intro p e s m args below meth c A Q ls M hin w ret hl
  have hx := M.1.1
  have hb := M.1.2.1
  have hl : lv_has ls 5 [(0, .ref a0), (1, .ref a1)] := hl
  refine lv_iconst (v := iI 0) hx hb dX7_partsOf_0 (by decide +kernel) ?_
  refine lv_istore_n (lv' := [(2, .int (iI 0)), (0, .ref a0), (1, .ref a1)]) hx hb dX7_partsOf_1 rfl hl (by decide) rfl (fun ls hl => ?_)
  refine lv_iconst (v := iI 0) hx hb dX7_partsOf_2 (by decide +kernel) ?_
  refine lv_istore_n (lv' := [(3, .int (iI 0)), (2, .int (iI 0)), (0, .ref a0), (1, .ref a1)]) hx hb dX7_partsOf_3 rfl hl (by decide) rfl (fun ls hl => ?_)
  have loop1 : ∀ (k1 : Nat) (z1 : Int) (z2 : Int) (H : Heap) (locs : List Loc) (ls : Array Slot), 0 ≤ z1 → z1 ≤ 9 → 0 ≤ z2 → z2 ≤ 9 → 0 ≤ (z1 - z2) → ((x0 - z1) : Int).toNat < k1 → WD D A s.heap [(a0, .inr (7, [.ref a2, .ref a3, .ref a4, .ref a5, .int r0, .int r1, .int r2, .int r3])), (a1, .inr (9, [.ref a6, .ref a7, .ref a8, .ref a9, .ref a10, .ref a11, .ref a12, .ref a13, .ref a14, .int (iI x0), .int (iI x1), .int (iI x2), .int (iI x3), .int (iI x4), .int (iI x5), .int (iI x6), .int (iI x7), .int (iI x8)])), (a3, .inl (T 0, 9, .inl (cI f0))), (a4, .inl (T 0, 9, .inl (cI f1)))] H locs → lv_has ls 5 [(3, .int (iI z1)), (2, .int (iI z2)), (0, .ref a0), (1, .ref a1)] → W p l e (Rm 1 0 0) s m args below meth c H locs 0 0 Q (F0 m 4 ls []) := by
    intro k1
    induction k1 with
    | zero => intro z1 z2 H locs ls z1_a z1_b z2_a z2_b q1_0 hm; exact absurd hm (Nat.not_lt_zero _)
    | succ k1 ih1 =>
      intro z1 z2 H locs ls z1_a z1_b z2_a z2_b q1_0 hm1 w hl
      refine lv_iload_n hx hb dX7_partsOf_4 rfl (lv_at hl 0 rfl) ?_
      refine lv_aload_n hx hb dX7_partsOf_5 rfl (lv_at hl 3 rfl) ?_
      refine r_getN (v := .int (iI x0)) M w 1 9 clX9 rfl (by decide) N390 rfl rfl dX7_partsOf_6 ?_
      refine lv_icmp_ge (tgt := 39) hx hb dX7_partsOf_9 (by decide) (fun c_3 => ?_) (fun c_3 => ?_)
      · replace c_3 := (iI_le (Int.le_trans (by decide) x0_a) (Int.le_trans x0_b (by decide)) (Int.le_trans (by decide) z1_a) (Int.le_trans z1_b (by decide))).mp c_3
        refine lv_iload_n hx hb dX7_partsOf_39 rfl (lv_at hl 1 rfl) ?_
        exact ret _ z2 _ _ _ _ _ [0, 1, 2, 3] dX7_partsOf_40 ⟨rfl, (show (-2147483648) ≤ z2 from by omega), (show z2 ≤ 2147483647 from by omega)⟩ w (by decide) rfl
      · replace c_3 : z1 < x0 := Int.not_le.mp (fun h => c_3 ((iI_le (Int.le_trans (by decide) x0_a) (Int.le_trans x0_b (by decide)) (Int.le_trans (by decide) z1_a) (Int.le_trans z1_b (by decide))).mpr h))
        refine lv_iconst (v := iI 1) hx hb dX7_partsOf_12 (by decide +kernel) ?_
        refine lv_iload_n hx hb dX7_partsOf_13 rfl (lv_at hl 0 rfl) ?_
        refine r_ishl (v := _) M rfl dX7_partsOf_14 ?_
        refine b_rng (lo := 1) (hi := 256) (ishl_9 (by omega) (by omega)) (fun z4 z4_a z4_b => ?_)
        refine lv_iconst (v := iI 1) hx hb dX7_partsOf_15 (by decide +kernel) ?_
        refine r_isub (v := iI (z4 - 1)) M (iI_sub _ _) dX7_partsOf_16 ?_
        refine lv_istore (lv' := [(4, .int (iI (z4 - 1))), (3, .int (iI z1)), (2, .int (iI z2)), (0, .ref a0), (1, .ref a1)]) hx hb dX7_partsOf_17 hl (by decide) rfl (fun ls hl => ?_)
        refine lv_aload_n hx hb dX7_partsOf_19 rfl (lv_at hl 3 rfl) ?_
        refine lv_iload_n hx hb dX7_partsOf_20 rfl (lv_at hl 1 rfl) ?_
        refine k_I (ce := 0) (sl := 0) (rest := []) (wr := [(a1, .inr (9, [.ref a6, .ref a7, .ref a8, .ref a9, .ref a10, .ref a11, .ref a12, .ref a13, .ref a14, .int (iI x0), .int (iI x1), .int (iI x2), .int (iI x3), .int (iI x4), .int (iI x5), .int (iI x6), .int (iI x7), .int (iI x8)]))]) (r_V (f := 0) [0, 2, 3] M w V_HookedCity_State_121 G926 G927 (c241_X7_togetherWith l D T _ a0 z1 a2 a3 a4 a5 r0 r1 r2 r3 f0 f1 (by omega) (by omega) f0_h f1_h) 0 clX7 rfl rfl (by decide) rfl hl.1 rfl (Nat.le_of_ble_eq_true rfl) dX7_partsOf_21 (by decide) (by decide) (by decide) (by decide)) w [0, 2, 3] [1] rfl rfl (by decide) (by decide) rfl rfl (fun v z5 H locs hp w => ?_)
        have hv : iI z5 = v := hp.1
        subst hv
        have z5_a : (-2147483648) ≤ z5 := hp.2.1
        have z5_b : z5 ≤ 2147483647 := hp.2.2
        have w : WD D A s.heap [(a1, .inr (9, [.ref a6, .ref a7, .ref a8, .ref a9, .ref a10, .ref a11, .ref a12, .ref a13, .ref a14, .int (iI x0), .int (iI x1), .int (iI x2), .int (iI x3), .int (iI x4), .int (iI x5), .int (iI x6), .int (iI x7), .int (iI x8)])), (a0, .inr (7, [.ref a2, .ref a3, .ref a4, .ref a5, .int r0, .int r1, .int r2, .int r3])), (a3, .inl (T 0, 9, .inl (cI f0))), (a4, .inl (T 0, 9, .inl (cI f1)))] H locs := w
        refine lv_iload hx hb dX7_partsOf_24 (lv_at hl 0 rfl) ?_
        refine r_iand (v := _) M rfl dX7_partsOf_26 ?_
        refine b_rng (lo := 0) (hi := (z4 - 1)) (iand_r (by omega) (by omega)) (fun z6 z6_a z6_b => ?_)
        refine lv_if_ne (tgt := 33) hx hb dX7_partsOf_27 (by decide) (fun c_7 => ?_) (fun c_7 => ?_)
        · replace c_7 : ¬ z6 = 0 := fun h => c_7 ((iz_eq (by omega) (by omega)).mpr h)
          refine lv_iinc (v := iI (z1 + 1)) (lv' := [(3, .int (iI (z1 + 1))), (4, .int (iI (z4 - 1))), (2, .int (iI z2)), (0, .ref a0), (1, .ref a1)]) hx hb dX7_partsOf_33 hl (k := 1) rfl (ii_inc (by decide +kernel)) (by decide) rfl (fun ls hl => ?_)
          refine lv_goto (tgt := 4) hx hb dX7_partsOf_36 (by decide) ?_
          exact ih1 (z1 + 1) z2 _ _ _ (by omega) (by omega) z2_a z2_b (by omega) (by omega) (w.sub [1, 0, 2, 3] (by decide) rfl) (lv_sub hl [0, 2, 3, 4] rfl)
        · replace c_7 := (iz_eq (by omega) (by omega)).mp c_7
          refine lv_iinc (v := iI (z2 + 1)) (lv' := [(2, .int (iI (z2 + 1))), (4, .int (iI (z4 - 1))), (3, .int (iI z1)), (0, .ref a0), (1, .ref a1)]) hx hb dX7_partsOf_30 hl (k := 2) rfl (ii_inc (by decide +kernel)) (by decide) rfl (fun ls hl => ?_)
          refine lv_iinc (v := iI (z1 + 1)) (lv' := [(3, .int (iI (z1 + 1))), (2, .int (iI (z2 + 1))), (4, .int (iI (z4 - 1))), (0, .ref a0), (1, .ref a1)]) hx hb dX7_partsOf_33 hl (k := 2) rfl (ii_inc (by decide +kernel)) (by decide) rfl (fun ls hl => ?_)
          refine lv_goto (tgt := 4) hx hb dX7_partsOf_36 (by decide) ?_
          exact ih1 (z1 + 1) (z2 + 1) _ _ _ (by omega) (by omega) (by omega) (by omega) (by omega) (by omega) (w.sub [1, 0, 2, 3] (by decide) rfl) (lv_sub hl [0, 1, 3, 4] rfl)
  exact loop1 (((x0 - 0) : Int).toNat + 1) 0 0 _ _ _ (by decide) (by decide) (by decide) (by decide) (by omega) (Nat.lt_succ_self _) w (lv_sub hl [0, 1, 2, 3] rfl)
set_option maxRecDepth 100000 in
set_option maxHeartbeats 4000000 in
theorem c243_X7_ringOnes (l : Launch) (D : va_G) (T : Nat → ClassId) (sz : Nat) (a0 : Nat) (a1 : Nat) (a2 : Nat) (a3 : Nat) (a4 : Nat) (a5 : Nat) (r0 : Int32) (r1 : Int32) (r2 : Int32) (r3 : Int32) (a6 : Nat) (a7 : Nat) (a8 : Nat) (a9 : Nat) (a10 : Nat) (a11 : Nat) (a12 : Nat) (a13 : Nat) (a14 : Nat) (x0 : Int) (x1 : Int) (x2 : Int) (x3 : Int) (x4 : Int) (x5 : Int) (x6 : Int) (x7 : Int) (x8 : Int) (f0 : Int → Int) (x0_a : 0 ≤ x0) (x0_b : x0 ≤ 9) (x1_a : 0 ≤ x1) (x1_b : x1 ≤ 3) (x2_a : 0 ≤ x2) (x2_b : x2 ≤ 900) (x3_a : (-2147483648) ≤ x3) (x3_b : x3 ≤ 2147483647) (x4_a : (-2147483648) ≤ x4) (x4_b : x4 ≤ 2147483647) (x5_a : (-2147483648) ≤ x5) (x5_b : x5 ≤ 2147483647) (x6_a : 0 ≤ x6) (x6_b : x6 ≤ 1) (x7_a : 0 ≤ x7) (x7_b : x7 ≤ 1) (x8_a : 0 ≤ x8) (x8_b : x8 ≤ 1) (f0_h : rng (-1) 8 f0) : Met l yX7_ringOnes (Cond.code yX7_ringOnes cX7_ringOnes 4 (some .int) :: GW) (Rm 1 0 0) (cPre [.ref a0, .ref a1] D T [(a0, .inr (7, [.ref a2, .ref a3, .ref a4, .ref a5, .int r0, .int r1, .int r2, .int r3])), (a1, .inr (9, [.ref a6, .ref a7, .ref a8, .ref a9, .ref a10, .ref a11, .ref a12, .ref a13, .ref a14, .int (iI x0), .int (iI x1), .int (iI x2), .int (iI x3), .int (iI x4), .int (iI x5), .int (iI x6), .int (iI x7), .int (iI x8)])), (a3, .inl (T 0, 9, .inl (cI f0)))] sz) (qI D [(a0, .inr (7, [.ref a2, .ref a3, .ref a4, .ref a5, .int r0, .int r1, .int r2, .int r3])), (a1, .inr (9, [.ref a6, .ref a7, .ref a8, .ref a9, .ref a10, .ref a11, .ref a12, .ref a13, .ref a14, .int (iI x0), .int (iI x1), .int (iI x2), .int (iI x3), .int (iI x4), .int (iI x5), .int (iI x6), .int (iI x7), .int (iI x8)])), (a3, .inl (T 0, 9, .inl (cI f0)))] sz (fun (v : Int32) (u : Int) => iI u = v ∧ (-2147483648) ≤ u ∧ u ≤ 2147483647) (fun u => [(a0, .inr (7, [.ref a2, .ref a3, .ref a4, .ref a5, .int r0, .int r1, .int r2, .int r3])), (a1, .inr (9, [.ref a6, .ref a7, .ref a8, .ref a9, .ref a10, .ref a11, .ref a12, .ref a13, .ref a14, .int (iI x0), .int (iI x1), .int (iI x2), .int (iI x3), .int (iI x4), .int (iI x5), .int (iI x6), .int (iI x7), .int (iI x8)])), (a3, .inl (T 0, 9, .inl (cI f0)))])) 0 0 (va_A [(a0, .inr (7, [.ref a2, .ref a3, .ref a4, .ref a5, .int r0, .int r1, .int r2, .int r3])), (a1, .inr (9, [.ref a6, .ref a7, .ref a8, .ref a9, .ref a10, .ref a11, .ref a12, .ref a13, .ref a14, .int (iI x0), .int (iI x1), .int (iI x2), .int (iI x3), .int (iI x4), .int (iI x5), .int (iI x6), .int (iI x7), .int (iI x8)])), (a3, .inl (T 0, 9, .inl (cI f0)))] sz) := by
  refine e_I (by decide) (Nat.le_of_ble_eq_true rfl) ?_
  intro p e s m args below meth c A Q ls M hin w ret hl
  have hx := M.1.1
  have hb := M.1.2.1
  have hl : lv_has ls 4 [(0, .ref a0), (1, .ref a1)] := hl
  refine lv_iconst (v := iI 0) hx hb dX7_ringOnes_0 (by decide +kernel) ?_
  refine lv_istore_n (lv' := [(2, .int (iI 0)), (0, .ref a0), (1, .ref a1)]) hx hb dX7_ringOnes_1 rfl hl (by decide) rfl (fun ls hl => ?_)
  refine lv_iconst (v := iI 0) hx hb dX7_ringOnes_2 (by decide +kernel) ?_
  refine lv_istore_n (lv' := [(3, .int (iI 0)), (2, .int (iI 0)), (0, .ref a0), (1, .ref a1)]) hx hb dX7_ringOnes_3 rfl hl (by decide) rfl (fun ls hl => ?_)
  have loop1 : ∀ (k1 : Nat) (z1 : Int) (z2 : Int) (H : Heap) (locs : List Loc) (ls : Array Slot), 0 ≤ z1 → z1 ≤ 9 → (-2147483648) ≤ z2 → z2 ≤ 2147483647 → ((x0 - z1) : Int).toNat < k1 → WD D A s.heap [(a0, .inr (7, [.ref a2, .ref a3, .ref a4, .ref a5, .int r0, .int r1, .int r2, .int r3])), (a1, .inr (9, [.ref a6, .ref a7, .ref a8, .ref a9, .ref a10, .ref a11, .ref a12, .ref a13, .ref a14, .int (iI x0), .int (iI x1), .int (iI x2), .int (iI x3), .int (iI x4), .int (iI x5), .int (iI x6), .int (iI x7), .int (iI x8)])), (a3, .inl (T 0, 9, .inl (cI f0)))] H locs → lv_has ls 4 [(3, .int (iI z1)), (2, .int (iI z2)), (0, .ref a0), (1, .ref a1)] → W p l e (Rm 1 0 0) s m args below meth c H locs 0 0 Q (F0 m 4 ls []) := by
    intro k1
    induction k1 with
    | zero => intro z1 z2 H locs ls z1_a z1_b z2_a z2_b hm; exact absurd hm (Nat.not_lt_zero _)
    | succ k1 ih1 =>
      intro z1 z2 H locs ls z1_a z1_b z2_a z2_b hm1 w hl
      refine lv_iload_n hx hb dX7_ringOnes_4 rfl (lv_at hl 0 rfl) ?_
      refine lv_aload_n hx hb dX7_ringOnes_5 rfl (lv_at hl 3 rfl) ?_
      refine r_getN (v := .int (iI x0)) M w 1 9 clX9 rfl (by decide) N390 rfl rfl dX7_ringOnes_6 ?_
      refine lv_icmp_ge (tgt := 36) hx hb dX7_ringOnes_9 (by decide) (fun c_3 => ?_) (fun c_3 => ?_)
      · replace c_3 := (iI_le (Int.le_trans (by decide) x0_a) (Int.le_trans x0_b (by decide)) (Int.le_trans (by decide) z1_a) (Int.le_trans z1_b (by decide))).mp c_3
        refine lv_iload_n hx hb dX7_ringOnes_36 rfl (lv_at hl 1 rfl) ?_
        exact ret _ z2 _ _ _ _ _ [0, 1, 2] dX7_ringOnes_37 ⟨rfl, z2_a, z2_b⟩ w (by decide) rfl
      · replace c_3 : z1 < x0 := Int.not_le.mp (fun h => c_3 ((iI_le (Int.le_trans (by decide) x0_a) (Int.le_trans x0_b (by decide)) (Int.le_trans (by decide) z1_a) (Int.le_trans z1_b (by decide))).mpr h))
        refine lv_iload_n hx hb dX7_ringOnes_12 rfl (lv_at hl 1 rfl) ?_
        refine lv_aload_n hx hb dX7_ringOnes_13 rfl (lv_at hl 2 rfl) ?_
        refine lv_iload_n hx hb dX7_ringOnes_14 rfl (lv_at hl 0 rfl) ?_
        refine k_I (ce := 0) (sl := 0) (rest := [.int (iI z2)]) (wr := [(a1, .inr (9, [.ref a6, .ref a7, .ref a8, .ref a9, .ref a10, .ref a11, .ref a12, .ref a13, .ref a14, .int (iI x0), .int (iI x1), .int (iI x2), .int (iI x3), .int (iI x4), .int (iI x5), .int (iI x6), .int (iI x7), .int (iI x8)]))]) (r_V (f := 0) [0, 2] M w V_HookedCity_State_124 G947 G948 (c240_X7_onRing l D T _ a0 z1 a2 a3 a4 a5 r0 r1 r2 r3 f0 (by omega) (by omega) f0_h) 0 clX7 rfl rfl (by decide) rfl hl.1 rfl (Nat.le_of_ble_eq_true rfl) dX7_ringOnes_15 (by decide) (by decide) (by decide) (by decide)) w [0, 2] [1] rfl rfl (by decide) (by decide) rfl rfl (fun v z4 H locs hp w => ?_)
        have hv : iI z4 = v := hp.1
        subst hv
        have z4_a : 0 ≤ z4 := hp.2.1
        have z4_b : z4 ≤ 1 := hp.2.2
        have w : WD D A s.heap [(a1, .inr (9, [.ref a6, .ref a7, .ref a8, .ref a9, .ref a10, .ref a11, .ref a12, .ref a13, .ref a14, .int (iI x0), .int (iI x1), .int (iI x2), .int (iI x3), .int (iI x4), .int (iI x5), .int (iI x6), .int (iI x7), .int (iI x8)])), (a0, .inr (7, [.ref a2, .ref a3, .ref a4, .ref a5, .int r0, .int r1, .int r2, .int r3])), (a3, .inl (T 0, 9, .inl (cI f0)))] H locs := w
        refine lv_if_eq (tgt := 27) hx hb dX7_ringOnes_18 (by decide) (fun c_5 => ?_) (fun c_5 => ?_)
        · replace c_5 := (iz_eq (Int.le_trans (by decide) z4_a) (Int.le_trans z4_b (by decide))).mp c_5
          refine lv_iconst (v := iI 0) hx hb dX7_ringOnes_27 (by decide +kernel) ?_
          refine r_ior (v := _) M rfl dX7_ringOnes_28 ?_
          refine b_any (fun z6 z6_a z6_b => ?_)
          refine lv_istore_n (lv' := [(2, .int (iI z6)), (3, .int (iI z1)), (0, .ref a0), (1, .ref a1)]) hx hb dX7_ringOnes_29 rfl hl (by decide) rfl (fun ls hl => ?_)
          refine lv_iinc (v := iI (z1 + 1)) (lv' := [(3, .int (iI (z1 + 1))), (2, .int (iI z6)), (0, .ref a0), (1, .ref a1)]) hx hb dX7_ringOnes_30 hl (k := 1) rfl (ii_inc (by decide +kernel)) (by decide) rfl (fun ls hl => ?_)
          refine lv_goto (tgt := 4) hx hb dX7_ringOnes_33 (by decide) ?_
          exact ih1 (z1 + 1) z6 _ _ _ (by omega) (by omega) z6_a z6_b (by omega) (w.sub [1, 0, 2] (by decide) rfl) (lv_sub hl [0, 1, 2, 3] rfl)
        · replace c_5 : ¬ z4 = 0 := fun h => c_5 ((iz_eq (Int.le_trans (by decide) z4_a) (Int.le_trans z4_b (by decide))).mpr h)
          refine lv_iconst (v := iI 1) hx hb dX7_ringOnes_21 (by decide +kernel) ?_
          refine lv_iload_n hx hb dX7_ringOnes_22 rfl (lv_at hl 0 rfl) ?_
          refine r_ishl (v := _) M rfl dX7_ringOnes_23 ?_
          refine b_rng (lo := 1) (hi := 256) (ishl_9 (by omega) (by omega)) (fun z7 z7_a z7_b => ?_)
          refine lv_goto (tgt := 28) hx hb dX7_ringOnes_24 (by decide) ?_
          refine r_ior (v := _) M rfl dX7_ringOnes_28 ?_
          refine b_any (fun z8 z8_a z8_b => ?_)
          refine lv_istore_n (lv' := [(2, .int (iI z8)), (3, .int (iI z1)), (0, .ref a0), (1, .ref a1)]) hx hb dX7_ringOnes_29 rfl hl (by decide) rfl (fun ls hl => ?_)
          refine lv_iinc (v := iI (z1 + 1)) (lv' := [(3, .int (iI (z1 + 1))), (2, .int (iI z8)), (0, .ref a0), (1, .ref a1)]) hx hb dX7_ringOnes_30 hl (k := 1) rfl (ii_inc (by decide +kernel)) (by decide) rfl (fun ls hl => ?_)
          refine lv_goto (tgt := 4) hx hb dX7_ringOnes_33 (by decide) ?_
          exact ih1 (z1 + 1) z8 _ _ _ (by omega) (by omega) z8_a z8_b (by omega) (w.sub [1, 0, 2] (by decide) rfl) (lv_sub hl [0, 1, 2, 3] rfl)
  exact loop1 (((x0 - 0) : Int).toNat + 1) 0 0 _ _ _ (by decide) (by decide) (by decide) (by decide) (Nat.lt_succ_self _) w (lv_sub hl [0, 1, 2, 3] rfl)
set_option maxRecDepth 100000 in
set_option maxHeartbeats 4000000 in
theorem c244_X7_openOnes (l : Launch) (D : va_G) (T : Nat → ClassId) (sz : Nat) (a0 : Nat) (a1 : Nat) (a2 : Nat) (a3 : Nat) (a4 : Nat) (a5 : Nat) (r0 : Int32) (r1 : Int32) (r2 : Int32) (r3 : Int32) (a6 : Nat) (a7 : Nat) (a8 : Nat) (a9 : Nat) (a10 : Nat) (a11 : Nat) (a12 : Nat) (a13 : Nat) (a14 : Nat) (x0 : Int) (x1 : Int) (x2 : Int) (x3 : Int) (x4 : Int) (x5 : Int) (x6 : Int) (x7 : Int) (x8 : Int) (f0 : Int → Int) (x0_a : 0 ≤ x0) (x0_b : x0 ≤ 9) (x1_a : 0 ≤ x1) (x1_b : x1 ≤ 3) (x2_a : 0 ≤ x2) (x2_b : x2 ≤ 900) (x3_a : (-2147483648) ≤ x3) (x3_b : x3 ≤ 2147483647) (x4_a : (-2147483648) ≤ x4) (x4_b : x4 ≤ 2147483647) (x5_a : (-2147483648) ≤ x5) (x5_b : x5 ≤ 2147483647) (x6_a : 0 ≤ x6) (x6_b : x6 ≤ 1) (x7_a : 0 ≤ x7) (x7_b : x7 ≤ 1) (x8_a : 0 ≤ x8) (x8_b : x8 ≤ 1) (f0_h : rng (-1) 8 f0) : Met l yX7_openOnes (Cond.code yX7_openOnes cX7_openOnes 4 (some .int) :: GW) (Rm 0 0 0) (cPre [.ref a0, .ref a1] D T [(a0, .inr (7, [.ref a2, .ref a3, .ref a4, .ref a5, .int r0, .int r1, .int r2, .int r3])), (a1, .inr (9, [.ref a6, .ref a7, .ref a8, .ref a9, .ref a10, .ref a11, .ref a12, .ref a13, .ref a14, .int (iI x0), .int (iI x1), .int (iI x2), .int (iI x3), .int (iI x4), .int (iI x5), .int (iI x6), .int (iI x7), .int (iI x8)])), (a3, .inl (T 0, 9, .inl (cI f0)))] sz) (qI D [(a0, .inr (7, [.ref a2, .ref a3, .ref a4, .ref a5, .int r0, .int r1, .int r2, .int r3])), (a1, .inr (9, [.ref a6, .ref a7, .ref a8, .ref a9, .ref a10, .ref a11, .ref a12, .ref a13, .ref a14, .int (iI x0), .int (iI x1), .int (iI x2), .int (iI x3), .int (iI x4), .int (iI x5), .int (iI x6), .int (iI x7), .int (iI x8)])), (a3, .inl (T 0, 9, .inl (cI f0)))] sz (fun (v : Int32) (u : Int) => iI u = v ∧ (-2147483648) ≤ u ∧ u ≤ 2147483647) (fun u => [(a0, .inr (7, [.ref a2, .ref a3, .ref a4, .ref a5, .int r0, .int r1, .int r2, .int r3])), (a1, .inr (9, [.ref a6, .ref a7, .ref a8, .ref a9, .ref a10, .ref a11, .ref a12, .ref a13, .ref a14, .int (iI x0), .int (iI x1), .int (iI x2), .int (iI x3), .int (iI x4), .int (iI x5), .int (iI x6), .int (iI x7), .int (iI x8)])), (a3, .inl (T 0, 9, .inl (cI f0)))])) 0 0 (va_A [(a0, .inr (7, [.ref a2, .ref a3, .ref a4, .ref a5, .int r0, .int r1, .int r2, .int r3])), (a1, .inr (9, [.ref a6, .ref a7, .ref a8, .ref a9, .ref a10, .ref a11, .ref a12, .ref a13, .ref a14, .int (iI x0), .int (iI x1), .int (iI x2), .int (iI x3), .int (iI x4), .int (iI x5), .int (iI x6), .int (iI x7), .int (iI x8)])), (a3, .inl (T 0, 9, .inl (cI f0)))] sz) := by
  refine e_I (by decide) (Nat.le_of_ble_eq_true rfl) ?_
  intro p e s m args below meth c A Q ls M hin w ret hl
  have hx := M.1.1
  have hb := M.1.2.1
  have hl : lv_has ls 4 [(0, .ref a0), (1, .ref a1)] := hl
  refine lv_iconst (v := iI 0) hx hb dX7_openOnes_0 (by decide +kernel) ?_
  refine lv_istore_n (lv' := [(2, .int (iI 0)), (0, .ref a0), (1, .ref a1)]) hx hb dX7_openOnes_1 rfl hl (by decide) rfl (fun ls hl => ?_)
  refine lv_iconst (v := iI 0) hx hb dX7_openOnes_2 (by decide +kernel) ?_
  refine lv_istore_n (lv' := [(3, .int (iI 0)), (2, .int (iI 0)), (0, .ref a0), (1, .ref a1)]) hx hb dX7_openOnes_3 rfl hl (by decide) rfl (fun ls hl => ?_)
  have loop1 : ∀ (k1 : Nat) (z1 : Int) (z2 : Int) (H : Heap) (locs : List Loc) (ls : Array Slot), 0 ≤ z1 → z1 ≤ 9 → (-2147483648) ≤ z2 → z2 ≤ 2147483647 → ((x0 - z1) : Int).toNat < k1 → WD D A s.heap [(a0, .inr (7, [.ref a2, .ref a3, .ref a4, .ref a5, .int r0, .int r1, .int r2, .int r3])), (a1, .inr (9, [.ref a6, .ref a7, .ref a8, .ref a9, .ref a10, .ref a11, .ref a12, .ref a13, .ref a14, .int (iI x0), .int (iI x1), .int (iI x2), .int (iI x3), .int (iI x4), .int (iI x5), .int (iI x6), .int (iI x7), .int (iI x8)])), (a3, .inl (T 0, 9, .inl (cI f0)))] H locs → lv_has ls 4 [(3, .int (iI z1)), (2, .int (iI z2)), (0, .ref a0), (1, .ref a1)] → W p l e (Rm 0 0 0) s m args below meth c H locs 0 0 Q (F0 m 4 ls []) := by
    intro k1
    induction k1 with
    | zero => intro z1 z2 H locs ls z1_a z1_b z2_a z2_b hm; exact absurd hm (Nat.not_lt_zero _)
    | succ k1 ih1 =>
      intro z1 z2 H locs ls z1_a z1_b z2_a z2_b hm1 w hl
      refine lv_iload_n hx hb dX7_openOnes_4 rfl (lv_at hl 0 rfl) ?_
      refine lv_aload_n hx hb dX7_openOnes_5 rfl (lv_at hl 3 rfl) ?_
      refine r_getN (v := .int (iI x0)) M w 1 9 clX9 rfl (by decide) N390 rfl rfl dX7_openOnes_6 ?_
      refine lv_icmp_ge (tgt := 38) hx hb dX7_openOnes_9 (by decide) (fun c_3 => ?_) (fun c_3 => ?_)
      · replace c_3 := (iI_le (Int.le_trans (by decide) x0_a) (Int.le_trans x0_b (by decide)) (Int.le_trans (by decide) z1_a) (Int.le_trans z1_b (by decide))).mp c_3
        refine lv_iload_n hx hb dX7_openOnes_38 rfl (lv_at hl 1 rfl) ?_
        exact ret _ z2 _ _ _ _ _ [0, 1, 2] dX7_openOnes_39 ⟨rfl, z2_a, z2_b⟩ w (by decide) rfl
      · replace c_3 : z1 < x0 := Int.not_le.mp (fun h => c_3 ((iI_le (Int.le_trans (by decide) x0_a) (Int.le_trans x0_b (by decide)) (Int.le_trans (by decide) z1_a) (Int.le_trans z1_b (by decide))).mpr h))
        refine lv_iload_n hx hb dX7_openOnes_12 rfl (lv_at hl 1 rfl) ?_
        refine lv_aload_n hx hb dX7_openOnes_13 rfl (lv_at hl 2 rfl) ?_
        refine r_get (v := .ref a3) M w 0 1 clX7 rfl (by decide) G220 rfl rfl dX7_openOnes_14 ?_
        refine lv_iload_n hx hb dX7_openOnes_17 rfl (lv_at hl 0 rfl) ?_
        refine r_iald (v := iI (f0 z1)) M w 2 rfl (iI_in (by omega) (by omega) (by decide)) (cI_at (by omega) (by omega)) dX7_openOnes_18 ?_
        have hh4 : (-1) ≤ (f0 z1) ∧ (f0 z1) ≤ 8 := f0_h z1
        refine lv_iconst (v := iI (-1)) hx hb dX7_openOnes_19 (by decide +kernel) ?_
        refine lv_icmp_ne (tgt := 29) hx hb dX7_openOnes_20 (by decide) (fun c_5 => ?_) (fun c_5 => ?_)
        · replace c_5 : ¬ (f0 z1) = (-1) := fun h => c_5 ((iI_eq (by omega) (by omega) (by decide) (by decide)).mpr h)
          refine lv_iconst (v := iI 0) hx hb dX7_openOnes_29 (by decide +kernel) ?_
          refine r_ior (v := _) M rfl dX7_openOnes_30 ?_
          refine b_any (fun z6 z6_a z6_b => ?_)
          refine lv_istore_n (lv' := [(2, .int (iI z6)), (3, .int (iI z1)), (0, .ref a0), (1, .ref a1)]) hx hb dX7_openOnes_31 rfl hl (by decide) rfl (fun ls hl => ?_)
          refine lv_iinc (v := iI (z1 + 1)) (lv' := [(3, .int (iI (z1 + 1))), (2, .int (iI z6)), (0, .ref a0), (1, .ref a1)]) hx hb dX7_openOnes_32 hl (k := 1) rfl (ii_inc (by decide +kernel)) (by decide) rfl (fun ls hl => ?_)
          refine lv_goto (tgt := 4) hx hb dX7_openOnes_35 (by decide) ?_
          exact ih1 (z1 + 1) z6 _ _ _ (by omega) (by omega) z6_a z6_b (by omega) w (lv_sub hl [0, 1, 2, 3] rfl)
        · replace c_5 := (iI_eq (by omega) (by omega) (by decide) (by decide)).mp c_5
          refine lv_iconst (v := iI 1) hx hb dX7_openOnes_23 (by decide +kernel) ?_
          refine lv_iload_n hx hb dX7_openOnes_24 rfl (lv_at hl 0 rfl) ?_
          refine r_ishl (v := _) M rfl dX7_openOnes_25 ?_
          refine b_rng (lo := 1) (hi := 256) (ishl_9 (by omega) (by omega)) (fun z7 z7_a z7_b => ?_)
          refine lv_goto (tgt := 30) hx hb dX7_openOnes_26 (by decide) ?_
          refine r_ior (v := _) M rfl dX7_openOnes_30 ?_
          refine b_any (fun z8 z8_a z8_b => ?_)
          refine lv_istore_n (lv' := [(2, .int (iI z8)), (3, .int (iI z1)), (0, .ref a0), (1, .ref a1)]) hx hb dX7_openOnes_31 rfl hl (by decide) rfl (fun ls hl => ?_)
          refine lv_iinc (v := iI (z1 + 1)) (lv' := [(3, .int (iI (z1 + 1))), (2, .int (iI z8)), (0, .ref a0), (1, .ref a1)]) hx hb dX7_openOnes_32 hl (k := 1) rfl (ii_inc (by decide +kernel)) (by decide) rfl (fun ls hl => ?_)
          refine lv_goto (tgt := 4) hx hb dX7_openOnes_35 (by decide) ?_
          exact ih1 (z1 + 1) z8 _ _ _ (by omega) (by omega) z8_a z8_b (by omega) w (lv_sub hl [0, 1, 2, 3] rfl)
  exact loop1 (((x0 - 0) : Int).toNat + 1) 0 0 _ _ _ (by decide) (by decide) (by decide) (by decide) (Nat.lt_succ_self _) w (lv_sub hl [0, 1, 2, 3] rfl)
set_option maxRecDepth 100000 in
set_option maxHeartbeats 4000000 in
theorem c245_X7_bareOnes (l : Launch) (D : va_G) (T : Nat → ClassId) (sz : Nat) (a0 : Nat) (a1 : Nat) (a2 : Nat) (a3 : Nat) (a4 : Nat) (a5 : Nat) (r0 : Int32) (r1 : Int32) (r2 : Int32) (r3 : Int32) (a6 : Nat) (a7 : Nat) (a8 : Nat) (a9 : Nat) (a10 : Nat) (a11 : Nat) (a12 : Nat) (a13 : Nat) (a14 : Nat) (x0 : Int) (x1 : Int) (x2 : Int) (x3 : Int) (x4 : Int) (x5 : Int) (x6 : Int) (x7 : Int) (x8 : Int) (f0 : Int → Int) (x0_a : 0 ≤ x0) (x0_b : x0 ≤ 9) (x1_a : 0 ≤ x1) (x1_b : x1 ≤ 3) (x2_a : 0 ≤ x2) (x2_b : x2 ≤ 900) (x3_a : (-2147483648) ≤ x3) (x3_b : x3 ≤ 2147483647) (x4_a : (-2147483648) ≤ x4) (x4_b : x4 ≤ 2147483647) (x5_a : (-2147483648) ≤ x5) (x5_b : x5 ≤ 2147483647) (x6_a : 0 ≤ x6) (x6_b : x6 ≤ 1) (x7_a : 0 ≤ x7) (x7_b : x7 ≤ 1) (x8_a : 0 ≤ x8) (x8_b : x8 ≤ 1) (f0_h : rng (-1) 8 f0) : Met l yX7_bareOnes (Cond.code yX7_bareOnes cX7_bareOnes 4 (some .int) :: GW) (Rm 0 0 0) (cPre [.ref a0, .ref a1] D T [(a0, .inr (7, [.ref a2, .ref a3, .ref a4, .ref a5, .int r0, .int r1, .int r2, .int r3])), (a1, .inr (9, [.ref a6, .ref a7, .ref a8, .ref a9, .ref a10, .ref a11, .ref a12, .ref a13, .ref a14, .int (iI x0), .int (iI x1), .int (iI x2), .int (iI x3), .int (iI x4), .int (iI x5), .int (iI x6), .int (iI x7), .int (iI x8)])), (a4, .inl (T 0, 9, .inl (cI f0)))] sz) (qI D [(a0, .inr (7, [.ref a2, .ref a3, .ref a4, .ref a5, .int r0, .int r1, .int r2, .int r3])), (a1, .inr (9, [.ref a6, .ref a7, .ref a8, .ref a9, .ref a10, .ref a11, .ref a12, .ref a13, .ref a14, .int (iI x0), .int (iI x1), .int (iI x2), .int (iI x3), .int (iI x4), .int (iI x5), .int (iI x6), .int (iI x7), .int (iI x8)])), (a4, .inl (T 0, 9, .inl (cI f0)))] sz (fun (v : Int32) (u : Int) => iI u = v ∧ (-2147483648) ≤ u ∧ u ≤ 2147483647) (fun u => [(a0, .inr (7, [.ref a2, .ref a3, .ref a4, .ref a5, .int r0, .int r1, .int r2, .int r3])), (a1, .inr (9, [.ref a6, .ref a7, .ref a8, .ref a9, .ref a10, .ref a11, .ref a12, .ref a13, .ref a14, .int (iI x0), .int (iI x1), .int (iI x2), .int (iI x3), .int (iI x4), .int (iI x5), .int (iI x6), .int (iI x7), .int (iI x8)])), (a4, .inl (T 0, 9, .inl (cI f0)))])) 0 0 (va_A [(a0, .inr (7, [.ref a2, .ref a3, .ref a4, .ref a5, .int r0, .int r1, .int r2, .int r3])), (a1, .inr (9, [.ref a6, .ref a7, .ref a8, .ref a9, .ref a10, .ref a11, .ref a12, .ref a13, .ref a14, .int (iI x0), .int (iI x1), .int (iI x2), .int (iI x3), .int (iI x4), .int (iI x5), .int (iI x6), .int (iI x7), .int (iI x8)])), (a4, .inl (T 0, 9, .inl (cI f0)))] sz) := by
  refine e_I (by decide) (Nat.le_of_ble_eq_true rfl) ?_
  intro p e s m args below meth c A Q ls M hin w ret hl
  have hx := M.1.1
  have hb := M.1.2.1
  have hl : lv_has ls 4 [(0, .ref a0), (1, .ref a1)] := hl
  refine lv_iconst (v := iI 0) hx hb dX7_bareOnes_0 (by decide +kernel) ?_
  refine lv_istore_n (lv' := [(2, .int (iI 0)), (0, .ref a0), (1, .ref a1)]) hx hb dX7_bareOnes_1 rfl hl (by decide) rfl (fun ls hl => ?_)
  refine lv_iconst (v := iI 0) hx hb dX7_bareOnes_2 (by decide +kernel) ?_
  refine lv_istore_n (lv' := [(3, .int (iI 0)), (2, .int (iI 0)), (0, .ref a0), (1, .ref a1)]) hx hb dX7_bareOnes_3 rfl hl (by decide) rfl (fun ls hl => ?_)
  have loop1 : ∀ (k1 : Nat) (z1 : Int) (z2 : Int) (H : Heap) (locs : List Loc) (ls : Array Slot), 0 ≤ z1 → z1 ≤ 9 → (-2147483648) ≤ z2 → z2 ≤ 2147483647 → ((x0 - z1) : Int).toNat < k1 → WD D A s.heap [(a0, .inr (7, [.ref a2, .ref a3, .ref a4, .ref a5, .int r0, .int r1, .int r2, .int r3])), (a1, .inr (9, [.ref a6, .ref a7, .ref a8, .ref a9, .ref a10, .ref a11, .ref a12, .ref a13, .ref a14, .int (iI x0), .int (iI x1), .int (iI x2), .int (iI x3), .int (iI x4), .int (iI x5), .int (iI x6), .int (iI x7), .int (iI x8)])), (a4, .inl (T 0, 9, .inl (cI f0)))] H locs → lv_has ls 4 [(3, .int (iI z1)), (2, .int (iI z2)), (0, .ref a0), (1, .ref a1)] → W p l e (Rm 0 0 0) s m args below meth c H locs 0 0 Q (F0 m 4 ls []) := by
    intro k1
    induction k1 with
    | zero => intro z1 z2 H locs ls z1_a z1_b z2_a z2_b hm; exact absurd hm (Nat.not_lt_zero _)
    | succ k1 ih1 =>
      intro z1 z2 H locs ls z1_a z1_b z2_a z2_b hm1 w hl
      refine lv_iload_n hx hb dX7_bareOnes_4 rfl (lv_at hl 0 rfl) ?_
      refine lv_aload_n hx hb dX7_bareOnes_5 rfl (lv_at hl 3 rfl) ?_
      refine r_getN (v := .int (iI x0)) M w 1 9 clX9 rfl (by decide) N390 rfl rfl dX7_bareOnes_6 ?_
      refine lv_icmp_ge (tgt := 38) hx hb dX7_bareOnes_9 (by decide) (fun c_3 => ?_) (fun c_3 => ?_)
      · replace c_3 := (iI_le (Int.le_trans (by decide) x0_a) (Int.le_trans x0_b (by decide)) (Int.le_trans (by decide) z1_a) (Int.le_trans z1_b (by decide))).mp c_3
        refine lv_iload_n hx hb dX7_bareOnes_38 rfl (lv_at hl 1 rfl) ?_
        exact ret _ z2 _ _ _ _ _ [0, 1, 2] dX7_bareOnes_39 ⟨rfl, z2_a, z2_b⟩ w (by decide) rfl
      · replace c_3 : z1 < x0 := Int.not_le.mp (fun h => c_3 ((iI_le (Int.le_trans (by decide) x0_a) (Int.le_trans x0_b (by decide)) (Int.le_trans (by decide) z1_a) (Int.le_trans z1_b (by decide))).mpr h))
        refine lv_iload_n hx hb dX7_bareOnes_12 rfl (lv_at hl 1 rfl) ?_
        refine lv_aload_n hx hb dX7_bareOnes_13 rfl (lv_at hl 2 rfl) ?_
        refine r_get (v := .ref a4) M w 0 2 clX7 rfl (by decide) G224 rfl rfl dX7_bareOnes_14 ?_
        refine lv_iload_n hx hb dX7_bareOnes_17 rfl (lv_at hl 0 rfl) ?_
        refine r_iald (v := iI (f0 z1)) M w 2 rfl (iI_in (by omega) (by omega) (by decide)) (cI_at (by omega) (by omega)) dX7_bareOnes_18 ?_
        have hh4 : (-1) ≤ (f0 z1) ∧ (f0 z1) ≤ 8 := f0_h z1
        refine lv_iconst (v := iI (-1)) hx hb dX7_bareOnes_19 (by decide +kernel) ?_
        refine lv_icmp_ne (tgt := 29) hx hb dX7_bareOnes_20 (by decide) (fun c_5 => ?_) (fun c_5 => ?_)
        · replace c_5 : ¬ (f0 z1) = (-1) := fun h => c_5 ((iI_eq (by omega) (by omega) (by decide) (by decide)).mpr h)
          refine lv_iconst (v := iI 0) hx hb dX7_bareOnes_29 (by decide +kernel) ?_
          refine r_ior (v := _) M rfl dX7_bareOnes_30 ?_
          refine b_any (fun z6 z6_a z6_b => ?_)
          refine lv_istore_n (lv' := [(2, .int (iI z6)), (3, .int (iI z1)), (0, .ref a0), (1, .ref a1)]) hx hb dX7_bareOnes_31 rfl hl (by decide) rfl (fun ls hl => ?_)
          refine lv_iinc (v := iI (z1 + 1)) (lv' := [(3, .int (iI (z1 + 1))), (2, .int (iI z6)), (0, .ref a0), (1, .ref a1)]) hx hb dX7_bareOnes_32 hl (k := 1) rfl (ii_inc (by decide +kernel)) (by decide) rfl (fun ls hl => ?_)
          refine lv_goto (tgt := 4) hx hb dX7_bareOnes_35 (by decide) ?_
          exact ih1 (z1 + 1) z6 _ _ _ (by omega) (by omega) z6_a z6_b (by omega) w (lv_sub hl [0, 1, 2, 3] rfl)
        · replace c_5 := (iI_eq (by omega) (by omega) (by decide) (by decide)).mp c_5
          refine lv_iconst (v := iI 1) hx hb dX7_bareOnes_23 (by decide +kernel) ?_
          refine lv_iload_n hx hb dX7_bareOnes_24 rfl (lv_at hl 0 rfl) ?_
          refine r_ishl (v := _) M rfl dX7_bareOnes_25 ?_
          refine b_rng (lo := 1) (hi := 256) (ishl_9 (by omega) (by omega)) (fun z7 z7_a z7_b => ?_)
          refine lv_goto (tgt := 30) hx hb dX7_bareOnes_26 (by decide) ?_
          refine r_ior (v := _) M rfl dX7_bareOnes_30 ?_
          refine b_any (fun z8 z8_a z8_b => ?_)
          refine lv_istore_n (lv' := [(2, .int (iI z8)), (3, .int (iI z1)), (0, .ref a0), (1, .ref a1)]) hx hb dX7_bareOnes_31 rfl hl (by decide) rfl (fun ls hl => ?_)
          refine lv_iinc (v := iI (z1 + 1)) (lv' := [(3, .int (iI (z1 + 1))), (2, .int (iI z8)), (0, .ref a0), (1, .ref a1)]) hx hb dX7_bareOnes_32 hl (k := 1) rfl (ii_inc (by decide +kernel)) (by decide) rfl (fun ls hl => ?_)
          refine lv_goto (tgt := 4) hx hb dX7_bareOnes_35 (by decide) ?_
          exact ih1 (z1 + 1) z8 _ _ _ (by omega) (by omega) z8_a z8_b (by omega) w (lv_sub hl [0, 1, 2, 3] rfl)
  exact loop1 (((x0 - 0) : Int).toNat + 1) 0 0 _ _ _ (by decide) (by decide) (by decide) (by decide) (Nat.lt_succ_self _) w (lv_sub hl [0, 1, 2, 3] rfl)
set_option maxRecDepth 100000 in
set_option maxHeartbeats 4000000 in
theorem c246_X7_tornOnes (l : Launch) (D : va_G) (T : Nat → ClassId) (sz : Nat) (a0 : Nat) (a1 : Nat) (a2 : Nat) (a3 : Nat) (a4 : Nat) (a5 : Nat) (r0 : Int32) (r1 : Int32) (r2 : Int32) (r3 : Int32) (a6 : Nat) (a7 : Nat) (a8 : Nat) (a9 : Nat) (a10 : Nat) (a11 : Nat) (a12 : Nat) (a13 : Nat) (a14 : Nat) (x0 : Int) (x1 : Int) (x2 : Int) (x3 : Int) (x4 : Int) (x5 : Int) (x6 : Int) (x7 : Int) (x8 : Int) (f0 : Nat → Int32) (x0_a : 0 ≤ x0) (x0_b : x0 ≤ 9) (x1_a : 0 ≤ x1) (x1_b : x1 ≤ 3) (x2_a : 0 ≤ x2) (x2_b : x2 ≤ 900) (x3_a : (-2147483648) ≤ x3) (x3_b : x3 ≤ 2147483647) (x4_a : (-2147483648) ≤ x4) (x4_b : x4 ≤ 2147483647) (x5_a : (-2147483648) ≤ x5) (x5_b : x5 ≤ 2147483647) (x6_a : 0 ≤ x6) (x6_b : x6 ≤ 1) (x7_a : 0 ≤ x7) (x7_b : x7 ≤ 1) (x8_a : 0 ≤ x8) (x8_b : x8 ≤ 1) : Met l yX7_tornOnes (Cond.code yX7_tornOnes cX7_tornOnes 4 (some .int) :: GW) (Rm 0 0 0) (cPre [.ref a0, .ref a1] D T [(a0, .inr (7, [.ref a2, .ref a3, .ref a4, .ref a5, .int r0, .int r1, .int r2, .int r3])), (a1, .inr (9, [.ref a6, .ref a7, .ref a8, .ref a9, .ref a10, .ref a11, .ref a12, .ref a13, .ref a14, .int (iI x0), .int (iI x1), .int (iI x2), .int (iI x3), .int (iI x4), .int (iI x5), .int (iI x6), .int (iI x7), .int (iI x8)])), (a2, .inl (T 0, 9, .inl f0))] sz) (qI D [(a0, .inr (7, [.ref a2, .ref a3, .ref a4, .ref a5, .int r0, .int r1, .int r2, .int r3])), (a1, .inr (9, [.ref a6, .ref a7, .ref a8, .ref a9, .ref a10, .ref a11, .ref a12, .ref a13, .ref a14, .int (iI x0), .int (iI x1), .int (iI x2), .int (iI x3), .int (iI x4), .int (iI x5), .int (iI x6), .int (iI x7), .int (iI x8)])), (a2, .inl (T 0, 9, .inl f0))] sz (fun (v : Int32) (u : Int) => iI u = v ∧ (-2147483648) ≤ u ∧ u ≤ 2147483647) (fun u => [(a0, .inr (7, [.ref a2, .ref a3, .ref a4, .ref a5, .int r0, .int r1, .int r2, .int r3])), (a1, .inr (9, [.ref a6, .ref a7, .ref a8, .ref a9, .ref a10, .ref a11, .ref a12, .ref a13, .ref a14, .int (iI x0), .int (iI x1), .int (iI x2), .int (iI x3), .int (iI x4), .int (iI x5), .int (iI x6), .int (iI x7), .int (iI x8)])), (a2, .inl (T 0, 9, .inl f0))])) 0 0 (va_A [(a0, .inr (7, [.ref a2, .ref a3, .ref a4, .ref a5, .int r0, .int r1, .int r2, .int r3])), (a1, .inr (9, [.ref a6, .ref a7, .ref a8, .ref a9, .ref a10, .ref a11, .ref a12, .ref a13, .ref a14, .int (iI x0), .int (iI x1), .int (iI x2), .int (iI x3), .int (iI x4), .int (iI x5), .int (iI x6), .int (iI x7), .int (iI x8)])), (a2, .inl (T 0, 9, .inl f0))] sz) := by
  refine e_I (by decide) (Nat.le_of_ble_eq_true rfl) ?_
  intro p e s m args below meth c A Q ls M hin w ret hl
  have hx := M.1.1
  have hb := M.1.2.1
  have hl : lv_has ls 4 [(0, .ref a0), (1, .ref a1)] := hl
  refine lv_iconst (v := iI 0) hx hb dX7_tornOnes_0 (by decide +kernel) ?_
  refine lv_istore_n (lv' := [(2, .int (iI 0)), (0, .ref a0), (1, .ref a1)]) hx hb dX7_tornOnes_1 rfl hl (by decide) rfl (fun ls hl => ?_)
  refine lv_iconst (v := iI 0) hx hb dX7_tornOnes_2 (by decide +kernel) ?_
  refine lv_istore_n (lv' := [(3, .int (iI 0)), (2, .int (iI 0)), (0, .ref a0), (1, .ref a1)]) hx hb dX7_tornOnes_3 rfl hl (by decide) rfl (fun ls hl => ?_)
  have loop1 : ∀ (k1 : Nat) (z1 : Int) (z2 : Int) (H : Heap) (locs : List Loc) (ls : Array Slot), 0 ≤ z1 → z1 ≤ 9 → (-2147483648) ≤ z2 → z2 ≤ 2147483647 → ((x0 - z1) : Int).toNat < k1 → WD D A s.heap [(a0, .inr (7, [.ref a2, .ref a3, .ref a4, .ref a5, .int r0, .int r1, .int r2, .int r3])), (a1, .inr (9, [.ref a6, .ref a7, .ref a8, .ref a9, .ref a10, .ref a11, .ref a12, .ref a13, .ref a14, .int (iI x0), .int (iI x1), .int (iI x2), .int (iI x3), .int (iI x4), .int (iI x5), .int (iI x6), .int (iI x7), .int (iI x8)])), (a2, .inl (T 0, 9, .inl f0))] H locs → lv_has ls 4 [(3, .int (iI z1)), (2, .int (iI z2)), (0, .ref a0), (1, .ref a1)] → W p l e (Rm 0 0 0) s m args below meth c H locs 0 0 Q (F0 m 4 ls []) := by
    intro k1
    induction k1 with
    | zero => intro z1 z2 H locs ls z1_a z1_b z2_a z2_b hm; exact absurd hm (Nat.not_lt_zero _)
    | succ k1 ih1 =>
      intro z1 z2 H locs ls z1_a z1_b z2_a z2_b hm1 w hl
      refine lv_iload_n hx hb dX7_tornOnes_4 rfl (lv_at hl 0 rfl) ?_
      refine lv_aload_n hx hb dX7_tornOnes_5 rfl (lv_at hl 3 rfl) ?_
      refine r_getN (v := .int (iI x0)) M w 1 9 clX9 rfl (by decide) N390 rfl rfl dX7_tornOnes_6 ?_
      refine lv_icmp_ge (tgt := 37) hx hb dX7_tornOnes_9 (by decide) (fun c_3 => ?_) (fun c_3 => ?_)
      · replace c_3 := (iI_le (Int.le_trans (by decide) x0_a) (Int.le_trans x0_b (by decide)) (Int.le_trans (by decide) z1_a) (Int.le_trans z1_b (by decide))).mp c_3
        refine lv_iload_n hx hb dX7_tornOnes_37 rfl (lv_at hl 1 rfl) ?_
        exact ret _ z2 _ _ _ _ _ [0, 1, 2] dX7_tornOnes_38 ⟨rfl, z2_a, z2_b⟩ w (by decide) rfl
      · replace c_3 : z1 < x0 := Int.not_le.mp (fun h => c_3 ((iI_le (Int.le_trans (by decide) x0_a) (Int.le_trans x0_b (by decide)) (Int.le_trans (by decide) z1_a) (Int.le_trans z1_b (by decide))).mpr h))
        refine lv_iload_n hx hb dX7_tornOnes_12 rfl (lv_at hl 1 rfl) ?_
        refine lv_aload_n hx hb dX7_tornOnes_13 rfl (lv_at hl 2 rfl) ?_
        refine r_get (v := .ref a2) M w 0 0 clX7 rfl (by decide) G215 rfl rfl dX7_tornOnes_14 ?_
        refine lv_iload_n hx hb dX7_tornOnes_17 rfl (lv_at hl 0 rfl) ?_
        refine r_iald (v := _) M w 2 rfl (iI_in (by omega) (by omega) (by decide)) rfl dX7_tornOnes_18 ?_
        refine b_any (fun z4 z4_a z4_b => ?_)
        refine lv_if_ne (tgt := 28) hx hb dX7_tornOnes_19 (by decide) (fun c_5 => ?_) (fun c_5 => ?_)
        · replace c_5 : ¬ z4 = 0 := fun h => c_5 ((iz_eq (Int.le_trans (by decide) z4_a) (Int.le_trans z4_b (by decide))).mpr h)
          refine lv_iconst (v := iI 0) hx hb dX7_tornOnes_28 (by decide +kernel) ?_
          refine r_ior (v := _) M rfl dX7_tornOnes_29 ?_
          refine b_any (fun z6 z6_a z6_b => ?_)
          refine lv_istore_n (lv' := [(2, .int (iI z6)), (3, .int (iI z1)), (0, .ref a0), (1, .ref a1)]) hx hb dX7_tornOnes_30 rfl hl (by decide) rfl (fun ls hl => ?_)
          refine lv_iinc (v := iI (z1 + 1)) (lv' := [(3, .int (iI (z1 + 1))), (2, .int (iI z6)), (0, .ref a0), (1, .ref a1)]) hx hb dX7_tornOnes_31 hl (k := 1) rfl (ii_inc (by decide +kernel)) (by decide) rfl (fun ls hl => ?_)
          refine lv_goto (tgt := 4) hx hb dX7_tornOnes_34 (by decide) ?_
          exact ih1 (z1 + 1) z6 _ _ _ (by omega) (by omega) z6_a z6_b (by omega) w (lv_sub hl [0, 1, 2, 3] rfl)
        · replace c_5 := (iz_eq (Int.le_trans (by decide) z4_a) (Int.le_trans z4_b (by decide))).mp c_5
          refine lv_iconst (v := iI 1) hx hb dX7_tornOnes_22 (by decide +kernel) ?_
          refine lv_iload_n hx hb dX7_tornOnes_23 rfl (lv_at hl 0 rfl) ?_
          refine r_ishl (v := _) M rfl dX7_tornOnes_24 ?_
          refine b_rng (lo := 1) (hi := 256) (ishl_9 (by omega) (by omega)) (fun z7 z7_a z7_b => ?_)
          refine lv_goto (tgt := 29) hx hb dX7_tornOnes_25 (by decide) ?_
          refine r_ior (v := _) M rfl dX7_tornOnes_29 ?_
          refine b_any (fun z8 z8_a z8_b => ?_)
          refine lv_istore_n (lv' := [(2, .int (iI z8)), (3, .int (iI z1)), (0, .ref a0), (1, .ref a1)]) hx hb dX7_tornOnes_30 rfl hl (by decide) rfl (fun ls hl => ?_)
          refine lv_iinc (v := iI (z1 + 1)) (lv' := [(3, .int (iI (z1 + 1))), (2, .int (iI z8)), (0, .ref a0), (1, .ref a1)]) hx hb dX7_tornOnes_31 hl (k := 1) rfl (ii_inc (by decide +kernel)) (by decide) rfl (fun ls hl => ?_)
          refine lv_goto (tgt := 4) hx hb dX7_tornOnes_34 (by decide) ?_
          exact ih1 (z1 + 1) z8 _ _ _ (by omega) (by omega) z8_a z8_b (by omega) w (lv_sub hl [0, 1, 2, 3] rfl)
  exact loop1 (((x0 - 0) : Int).toNat + 1) 0 0 _ _ _ (by decide) (by decide) (by decide) (by decide) (Nat.lt_succ_self _) w (lv_sub hl [0, 1, 2, 3] rfl)
set_option maxRecDepth 100000 in
set_option maxHeartbeats 4000000 in
theorem c247_X7_roomFor (l : Launch) (D : va_G) (T : Nat → ClassId) (sz : Nat) (a0 : Nat) (a1 : Nat) (x0 : Int) (a2 : Nat) (a3 : Nat) (a4 : Nat) (a5 : Nat) (r0 : Int32) (r1 : Int32) (r2 : Int32) (r3 : Int32) (a6 : Nat) (a7 : Nat) (a8 : Nat) (a9 : Nat) (a10 : Nat) (a11 : Nat) (a12 : Nat) (a13 : Nat) (a14 : Nat) (x1 : Int) (x2 : Int) (x3 : Int) (x4 : Int) (x5 : Int) (x6 : Int) (x7 : Int) (x8 : Int) (x9 : Int) (f0 : Nat → Int32) (f1 : Int → Int) (f2 : Int → Int) (f3 : Int → Int) (f4 : Int → Int) (f5 : Int → Int) (x0_a : 0 ≤ x0) (x0_b : x0 ≤ 8) (x1_a : 0 ≤ x1) (x1_b : x1 ≤ 9) (x2_a : 0 ≤ x2) (x2_b : x2 ≤ 3) (x3_a : 0 ≤ x3) (x3_b : x3 ≤ 900) (x4_a : (-2147483648) ≤ x4) (x4_b : x4 ≤ 2147483647) (x5_a : (-2147483648) ≤ x5) (x5_b : x5 ≤ 2147483647) (x6_a : (-2147483648) ≤ x6) (x6_b : x6 ≤ 2147483647) (x7_a : 0 ≤ x7) (x7_b : x7 ≤ 1) (x8_a : 0 ≤ x8) (x8_b : x8 ≤ 1) (x9_a : 0 ≤ x9) (x9_b : x9 ≤ 1) (f1_h : rng (-1) 8 f1) (f2_h : rng (-1) 8 f2) (f3_h : rng (-2147483648) 2147483647 f3) (f4_h : rng (-2147483648) 2147483647 f4) (f5_h : rng 0 511 f5) : Met l yX7_roomFor (Cond.code yX7_roomFor cX7_roomFor 5 (some .int) :: GW) (Rm 2 0 0) (cPre [.ref a0, .ref a1, .int (iI x0)] D T [(a0, .inr (7, [.ref a2, .ref a3, .ref a4, .ref a5, .int r0, .int r1, .int r2, .int r3])), (a1, .inr (9, [.ref a6, .ref a7, .ref a8, .ref a9, .ref a10, .ref a11, .ref a12, .ref a13, .ref a14, .int (iI x1), .int (iI x2), .int (iI x3), .int (iI x4), .int (iI x5), .int (iI x6), .int (iI x7), .int (iI x8), .int (iI x9)])), (a2, .inl (T 0, 9, .inl f0)), (a3, .inl (T 0, 9, .inl (cI f1))), (a4, .inl (T 0, 9, .inl (cI f2))), (a7, .inl (T 0, 9, .inl (cI f3))), (a8, .inl (T 0, 9, .inl (cI f4))), (a10, .inl (T 0, 9, .inl (cI f5)))] sz) (qI D [(a0, .inr (7, [.ref a2, .ref a3, .ref a4, .ref a5, .int r0, .int r1, .int r2, .int r3])), (a1, .inr (9, [.ref a6, .ref a7, .ref a8, .ref a9, .ref a10, .ref a11, .ref a12, .ref a13, .ref a14, .int (iI x1), .int (iI x2), .int (iI x3), .int (iI x4), .int (iI x5), .int (iI x6), .int (iI x7), .int (iI x8), .int (iI x9)])), (a2, .inl (T 0, 9, .inl f0)), (a3, .inl (T 0, 9, .inl (cI f1))), (a4, .inl (T 0, 9, .inl (cI f2))), (a7, .inl (T 0, 9, .inl (cI f3))), (a8, .inl (T 0, 9, .inl (cI f4))), (a10, .inl (T 0, 9, .inl (cI f5)))] sz (fun (v : Int32) (u : Int) => iI u = v ∧ (-2147483648) ≤ u ∧ u ≤ 2147483647) (fun u => [(a0, .inr (7, [.ref a2, .ref a3, .ref a4, .ref a5, .int r0, .int r1, .int r2, .int r3])), (a1, .inr (9, [.ref a6, .ref a7, .ref a8, .ref a9, .ref a10, .ref a11, .ref a12, .ref a13, .ref a14, .int (iI x1), .int (iI x2), .int (iI x3), .int (iI x4), .int (iI x5), .int (iI x6), .int (iI x7), .int (iI x8), .int (iI x9)])), (a2, .inl (T 0, 9, .inl f0)), (a3, .inl (T 0, 9, .inl (cI f1))), (a4, .inl (T 0, 9, .inl (cI f2))), (a7, .inl (T 0, 9, .inl (cI f3))), (a8, .inl (T 0, 9, .inl (cI f4))), (a10, .inl (T 0, 9, .inl (cI f5)))])) 0 0 (va_A [(a0, .inr (7, [.ref a2, .ref a3, .ref a4, .ref a5, .int r0, .int r1, .int r2, .int r3])), (a1, .inr (9, [.ref a6, .ref a7, .ref a8, .ref a9, .ref a10, .ref a11, .ref a12, .ref a13, .ref a14, .int (iI x1), .int (iI x2), .int (iI x3), .int (iI x4), .int (iI x5), .int (iI x6), .int (iI x7), .int (iI x8), .int (iI x9)])), (a2, .inl (T 0, 9, .inl f0)), (a3, .inl (T 0, 9, .inl (cI f1))), (a4, .inl (T 0, 9, .inl (cI f2))), (a7, .inl (T 0, 9, .inl (cI f3))), (a8, .inl (T 0, 9, .inl (cI f4))), (a10, .inl (T 0, 9, .inl (cI f5)))] sz) := by
  refine e_I (by decide) (Nat.le_of_ble_eq_true rfl) ?_
  intro p e s m args below meth c A Q ls M hin w ret hl
  have hx := M.1.1
  have hb := M.1.2.1
  have hl : lv_has ls 5 [(0, .ref a0), (1, .ref a1), (2, .int (iI x0))] := hl
  refine lv_iconst (v := iI 0) hx hb dX7_roomFor_0 (by decide +kernel) ?_
  refine lv_istore_n (lv' := [(3, .int (iI 0)), (0, .ref a0), (1, .ref a1), (2, .int (iI x0))]) hx hb dX7_roomFor_1 rfl hl (by decide) rfl (fun ls hl => ?_)
  refine lv_iconst (v := iI 0) hx hb dX7_roomFor_2 (by decide +kernel) ?_
  refine lv_istore (lv' := [(4, .int (iI 0)), (3, .int (iI 0)), (0, .ref a0), (1, .ref a1), (2, .int (iI x0))]) hx hb dX7_roomFor_3 hl (by decide) rfl (fun ls hl => ?_)
  have loop1 : ∀ (k1 : Nat) (z1 : Int) (z2 : Int) (H : Heap) (locs : List Loc) (ls : Array Slot), 0 ≤ z1 → z1 ≤ 9 → (-2147483648) ≤ z2 → z2 ≤ 2147483647 → ((x1 - z1) : Int).toNat < k1 → WD D A s.heap [(a0, .inr (7, [.ref a2, .ref a3, .ref a4, .ref a5, .int r0, .int r1, .int r2, .int r3])), (a1, .inr (9, [.ref a6, .ref a7, .ref a8, .ref a9, .ref a10, .ref a11, .ref a12, .ref a13, .ref a14, .int (iI x1), .int (iI x2), .int (iI x3), .int (iI x4), .int (iI x5), .int (iI x6), .int (iI x7), .int (iI x8), .int (iI x9)])), (a2, .inl (T 0, 9, .inl f0)), (a3, .inl (T 0, 9, .inl (cI f1))), (a4, .inl (T 0, 9, .inl (cI f2))), (a7, .inl (T 0, 9, .inl (cI f3))), (a8, .inl (T 0, 9, .inl (cI f4))), (a10, .inl (T 0, 9, .inl (cI f5)))] H locs → lv_has ls 5 [(4, .int (iI z1)), (3, .int (iI z2)), (0, .ref a0), (1, .ref a1), (2, .int (iI x0))] → W p l e (Rm 2 0 0) s m args below meth c H locs 0 0 Q (F0 m 5 ls []) := by
    intro k1
    induction k1 with
    | zero => intro z1 z2 H locs ls z1_a z1_b z2_a z2_b hm; exact absurd hm (Nat.not_lt_zero _)
    | succ k1 ih1 =>
      intro z1 z2 H locs ls z1_a z1_b z2_a z2_b hm1 w hl
      refine lv_iload hx hb dX7_roomFor_5 (lv_at hl 0 rfl) ?_
      refine lv_aload_n hx hb dX7_roomFor_7 rfl (lv_at hl 3 rfl) ?_
      refine r_getN (v := .int (iI x1)) M w 1 9 clX9 rfl (by decide) N390 rfl rfl dX7_roomFor_8 ?_
      refine lv_icmp_ge (tgt := 42) hx hb dX7_roomFor_11 (by decide) (fun c_3 => ?_) (fun c_3 => ?_)
      · replace c_3 := (iI_le (Int.le_trans (by decide) x1_a) (Int.le_trans x1_b (by decide)) (Int.le_trans (by decide) z1_a) (Int.le_trans z1_b (by decide))).mp c_3
        refine lv_iload_n hx hb dX7_roomFor_42 rfl (lv_at hl 1 rfl) ?_
        exact ret _ z2 _ _ _ _ _ [0, 1, 2, 3, 4, 5, 6, 7] dX7_roomFor_43 ⟨rfl, z2_a, z2_b⟩ w (by decide) rfl
      · replace c_3 : z1 < x1 := Int.not_le.mp (fun h => c_3 ((iI_le (Int.le_trans (by decide) x1_a) (Int.le_trans x1_b (by decide)) (Int.le_trans (by decide) z1_a) (Int.le_trans z1_b (by decide))).mpr h))
        refine lv_iload_n hx hb dX7_roomFor_14 rfl (lv_at hl 1 rfl) ?_
        refine lv_aload_n hx hb dX7_roomFor_15 rfl (lv_at hl 2 rfl) ?_
        refine lv_aload_n hx hb dX7_roomFor_16 rfl (lv_at hl 3 rfl) ?_
        refine lv_iload_n hx hb dX7_roomFor_17 rfl (lv_at hl 4 rfl) ?_
        refine lv_iload hx hb dX7_roomFor_18 (lv_at hl 0 rfl) ?_
        refine k_I (ce := 0) (sl := 0) (rest := [.int (iI z2)]) (wr := []) (r_V (f := 1) [0, 1, 2, 3, 4, 5, 6, 7] M w V_HookedCity_State_62 G849 G17 (c223_X7_whyNotInto l D T _ a0 a1 x0 z1 a2 a3 a4 a5 r0 r1 r2 r3 a6 a7 a8 a9 a10 a11 a12 a13 a14 x1 x2 x3 x4 x5 x6 x7 x8 x9 f0 f1 f2 f3 f4 f5 x0_a x0_b (by omega) (by omega) x1_a x1_b x2_a x2_b x3_a x3_b x4_a x4_b x5_a x5_b x6_a x6_b x7_a x7_b x8_a x8_b x9_a x9_b f1_h f2_h f3_h f4_h f5_h) 0 clX7 rfl rfl (by decide) rfl hl.1 rfl (Nat.le_of_ble_eq_true rfl) dX7_roomFor_20 (by decide) (by decide) (by decide) (by decide)) w [0, 1, 2, 3, 4, 5, 6, 7] [] rfl rfl (by decide) (by decide) rfl rfl (fun v z4 H locs hp w => ?_)
        have hv : iI z4 = v := hp.1
        subst hv
        have z4_a : (-2147483648) ≤ z4 := hp.2.1
        have z4_b : z4 ≤ 2147483647 := hp.2.2
        have w : WD D A s.heap [(a0, .inr (7, [.ref a2, .ref a3, .ref a4, .ref a5, .int r0, .int r1, .int r2, .int r3])), (a1, .inr (9, [.ref a6, .ref a7, .ref a8, .ref a9, .ref a10, .ref a11, .ref a12, .ref a13, .ref a14, .int (iI x1), .int (iI x2), .int (iI x3), .int (iI x4), .int (iI x5), .int (iI x6), .int (iI x7), .int (iI x8), .int (iI x9)])), (a2, .inl (T 0, 9, .inl f0)), (a3, .inl (T 0, 9, .inl (cI f1))), (a4, .inl (T 0, 9, .inl (cI f2))), (a7, .inl (T 0, 9, .inl (cI f3))), (a8, .inl (T 0, 9, .inl (cI f4))), (a10, .inl (T 0, 9, .inl (cI f5)))] H locs := w
        refine lv_if_ne (tgt := 33) hx hb dX7_roomFor_23 (by decide) (fun c_5 => ?_) (fun c_5 => ?_)
        · replace c_5 : ¬ z4 = 0 := fun h => c_5 ((iz_eq (Int.le_trans (by decide) z4_a) (Int.le_trans z4_b (by decide))).mpr h)
          refine lv_iconst (v := iI 0) hx hb dX7_roomFor_33 (by decide +kernel) ?_
          refine r_ior (v := _) M rfl dX7_roomFor_34 ?_
          refine b_any (fun z6 z6_a z6_b => ?_)
          refine lv_istore_n (lv' := [(3, .int (iI z6)), (4, .int (iI z1)), (0, .ref a0), (1, .ref a1), (2, .int (iI x0))]) hx hb dX7_roomFor_35 rfl hl (by decide) rfl (fun ls hl => ?_)
          refine lv_iinc (v := iI (z1 + 1)) (lv' := [(4, .int (iI (z1 + 1))), (3, .int (iI z6)), (0, .ref a0), (1, .ref a1), (2, .int (iI x0))]) hx hb dX7_roomFor_36 hl (k := 1) rfl (ii_inc (by decide +kernel)) (by decide) rfl (fun ls hl => ?_)
          refine lv_goto (tgt := 5) hx hb dX7_roomFor_39 (by decide) ?_
          exact ih1 (z1 + 1) z6 _ _ _ (by omega) (by omega) z6_a z6_b (by omega) w (lv_sub hl [0, 1, 2, 3, 4] rfl)
        · replace c_5 := (iz_eq (Int.le_trans (by decide) z4_a) (Int.le_trans z4_b (by decide))).mp c_5
          refine lv_iconst (v := iI 1) hx hb dX7_roomFor_26 (by decide +kernel) ?_
          refine lv_iload hx hb dX7_roomFor_27 (lv_at hl 0 rfl) ?_
          refine r_ishl (v := _) M rfl dX7_roomFor_29 ?_
          refine b_rng (lo := 1) (hi := 256) (ishl_9 (by omega) (by omega)) (fun z7 z7_a z7_b => ?_)
          refine lv_goto (tgt := 34) hx hb dX7_roomFor_30 (by decide) ?_
          refine r_ior (v := _) M rfl dX7_roomFor_34 ?_
          refine b_any (fun z8 z8_a z8_b => ?_)
          refine lv_istore_n (lv' := [(3, .int (iI z8)), (4, .int (iI z1)), (0, .ref a0), (1, .ref a1), (2, .int (iI x0))]) hx hb dX7_roomFor_35 rfl hl (by decide) rfl (fun ls hl => ?_)
          refine lv_iinc (v := iI (z1 + 1)) (lv' := [(4, .int (iI (z1 + 1))), (3, .int (iI z8)), (0, .ref a0), (1, .ref a1), (2, .int (iI x0))]) hx hb dX7_roomFor_36 hl (k := 1) rfl (ii_inc (by decide +kernel)) (by decide) rfl (fun ls hl => ?_)
          refine lv_goto (tgt := 5) hx hb dX7_roomFor_39 (by decide) ?_
          exact ih1 (z1 + 1) z8 _ _ _ (by omega) (by omega) z8_a z8_b (by omega) w (lv_sub hl [0, 1, 2, 3, 4] rfl)
  exact loop1 (((x1 - 0) : Int).toNat + 1) 0 0 _ _ _ (by decide) (by decide) (by decide) (by decide) (Nat.lt_succ_self _) w (lv_sub hl [0, 1, 2, 3, 4] rfl)
set_option maxRecDepth 100000 in
set_option maxHeartbeats 4000000 in
theorem c248_X7_daysLeft (l : Launch) (D : va_G) (T : Nat → ClassId) (sz : Nat) (a0 : Nat) (a1 : Nat) (x0 : Int) (a2 : Nat) (a3 : Nat) (a4 : Nat) (a5 : Nat) (r0 : Int32) (r1 : Int32) (r2 : Int32) (r3 : Int32) (a6 : Nat) (a7 : Nat) (a8 : Nat) (a9 : Nat) (a10 : Nat) (a11 : Nat) (a12 : Nat) (a13 : Nat) (a14 : Nat) (x1 : Int) (x2 : Int) (x3 : Int) (x4 : Int) (x5 : Int) (x6 : Int) (x7 : Int) (x8 : Int) (x9 : Int) (f0 : Nat → Int32) (f1 : Int → Int) (x0_a : 0 ≤ x0) (x0_b : x0 ≤ 8) (x1_a : 0 ≤ x1) (x1_b : x1 ≤ 9) (x2_a : 0 ≤ x2) (x2_b : x2 ≤ 3) (x3_a : 0 ≤ x3) (x3_b : x3 ≤ 900) (x4_a : (-2147483648) ≤ x4) (x4_b : x4 ≤ 2147483647) (x5_a : (-2147483648) ≤ x5) (x5_b : x5 ≤ 2147483647) (x6_a : (-2147483648) ≤ x6) (x6_b : x6 ≤ 2147483647) (x7_a : 0 ≤ x7) (x7_b : x7 ≤ 1) (x8_a : 0 ≤ x8) (x8_b : x8 ≤ 1) (x9_a : 0 ≤ x9) (x9_b : x9 ≤ 1) (f1_h : rng (-1) 8 f1) : Met l yX7_daysLeft (Cond.code yX7_daysLeft cX7_daysLeft 5 (some .int) :: GW) (Rm 1 0 0) (cPre [.ref a0, .ref a1, .int (iI x0)] D T [(a0, .inr (7, [.ref a2, .ref a3, .ref a4, .ref a5, .int r0, .int r1, .int r2, .int r3])), (a1, .inr (9, [.ref a6, .ref a7, .ref a8, .ref a9, .ref a10, .ref a11, .ref a12, .ref a13, .ref a14, .int (iI x1), .int (iI x2), .int (iI x3), .int (iI x4), .int (iI x5), .int (iI x6), .int (iI x7), .int (iI x8), .int (iI x9)])), (a2, .inl (T 0, 9, .inl f0)), (a4, .inl (T 0, 9, .inl (cI f1)))] sz) (qI D [(a0, .inr (7, [.ref a2, .ref a3, .ref a4, .ref a5, .int r0, .int r1, .int r2, .int r3])), (a1, .inr (9, [.ref a6, .ref a7, .ref a8, .ref a9, .ref a10, .ref a11, .ref a12, .ref a13, .ref a14, .int (iI x1), .int (iI x2), .int (iI x3), .int (iI x4), .int (iI x5), .int (iI x6), .int (iI x7), .int (iI x8), .int (iI x9)])), (a2, .inl (T 0, 9, .inl f0)), (a4, .inl (T 0, 9, .inl (cI f1)))] sz (fun (v : Int32) (u : Int) => iI u = v ∧ (-2147483648) ≤ u ∧ u ≤ 2147483647) (fun u => [(a0, .inr (7, [.ref a2, .ref a3, .ref a4, .ref a5, .int r0, .int r1, .int r2, .int r3])), (a1, .inr (9, [.ref a6, .ref a7, .ref a8, .ref a9, .ref a10, .ref a11, .ref a12, .ref a13, .ref a14, .int (iI x1), .int (iI x2), .int (iI x3), .int (iI x4), .int (iI x5), .int (iI x6), .int (iI x7), .int (iI x8), .int (iI x9)])), (a2, .inl (T 0, 9, .inl f0)), (a4, .inl (T 0, 9, .inl (cI f1)))])) 0 0 (va_A [(a0, .inr (7, [.ref a2, .ref a3, .ref a4, .ref a5, .int r0, .int r1, .int r2, .int r3])), (a1, .inr (9, [.ref a6, .ref a7, .ref a8, .ref a9, .ref a10, .ref a11, .ref a12, .ref a13, .ref a14, .int (iI x1), .int (iI x2), .int (iI x3), .int (iI x4), .int (iI x5), .int (iI x6), .int (iI x7), .int (iI x8), .int (iI x9)])), (a2, .inl (T 0, 9, .inl f0)), (a4, .inl (T 0, 9, .inl (cI f1)))] sz) := by
  refine e_I (by decide) (Nat.le_of_ble_eq_true rfl) ?_
  intro p e s m args below meth c A Q ls M hin w ret hl
  have hx := M.1.1
  have hb := M.1.2.1
  have hl : lv_has ls 5 [(0, .ref a0), (1, .ref a1), (2, .int (iI x0))] := hl
  refine lv_aload_n hx hb dX7_daysLeft_0 rfl (lv_at hl 0 rfl) ?_
  refine r_get (v := .ref a4) M w 0 2 clX7 rfl (by decide) G224 rfl rfl dX7_daysLeft_1 ?_
  refine lv_iload_n hx hb dX7_daysLeft_4 rfl (lv_at hl 2 rfl) ?_
  refine r_iald (v := iI (f1 x0)) M w 3 rfl (iI_in (by omega) (by omega) (by decide)) (cI_at (by omega) (by omega)) dX7_daysLeft_5 ?_
  have hh1 : (-1) ≤ (f1 x0) ∧ (f1 x0) ≤ 8 := f1_h x0
  refine lv_iconst (v := iI (-1)) hx hb dX7_daysLeft_6 (by decide +kernel) ?_
  refine lv_icmp_ne (tgt := 12) hx hb dX7_daysLeft_7 (by decide) (fun c_2 => ?_) (fun c_2 => ?_)
  · replace c_2 : ¬ (f1 x0) = (-1) := fun h => c_2 ((iI_eq (by omega) (by omega) (by decide) (by decide)).mpr h)
    refine lv_aload_n hx hb dX7_daysLeft_12 rfl (lv_at hl 0 rfl) ?_
    refine r_get (v := .ref a2) M w 0 0 clX7 rfl (by decide) G215 rfl rfl dX7_daysLeft_13 ?_
    refine lv_iload_n hx hb dX7_daysLeft_16 rfl (lv_at hl 2 rfl) ?_
    refine r_iald (v := _) M w 2 rfl (iI_in (by omega) (by omega) (by decide)) rfl dX7_daysLeft_17 ?_
    refine b_any (fun z3 z3_a z3_b => ?_)
    refine lv_istore_n (lv' := [(3, .int (iI z3)), (0, .ref a0), (1, .ref a1), (2, .int (iI x0))]) hx hb dX7_daysLeft_18 rfl hl (by decide) rfl (fun ls hl => ?_)
    refine lv_aload_n hx hb dX7_daysLeft_19 rfl (lv_at hl 1 rfl) ?_
    refine r_get (v := .int r0) M w 0 4 clX7 rfl (by decide) G229 rfl rfl dX7_daysLeft_20 ?_
    refine b_any (fun z4 z4_a z4_b => ?_)
    refine lv_istore (lv' := [(4, .int (iI z4)), (3, .int (iI z3)), (0, .ref a0), (1, .ref a1), (2, .int (iI x0))]) hx hb dX7_daysLeft_23 hl (by decide) rfl (fun ls hl => ?_)
    have loop1 : ∀ (k1 : Nat) (z5 : Int) (z6 : Int) (H : Heap) (locs : List Loc) (ls : Array Slot), (-2147483648) ≤ z5 → z5 ≤ 2147483647 → (-2147483648) ≤ z6 → z6 ≤ 2147483647 → ((400 - z5) : Int).toNat < k1 → WD D A s.heap [(a0, .inr (7, [.ref a2, .ref a3, .ref a4, .ref a5, .int r0, .int r1, .int r2, .int r3])), (a1, .inr (9, [.ref a6, .ref a7, .ref a8, .ref a9, .ref a10, .ref a11, .ref a12, .ref a13, .ref a14, .int (iI x1), .int (iI x2), .int (iI x3), .int (iI x4), .int (iI x5), .int (iI x6), .int (iI x7), .int (iI x8), .int (iI x9)])), (a2, .inl (T 0, 9, .inl f0)), (a4, .inl (T 0, 9, .inl (cI f1)))] H locs → lv_has ls 5 [(4, .int (iI z5)), (3, .int (iI z6)), (0, .ref a0), (1, .ref a1), (2, .int (iI x0))] → W p l e (Rm 1 0 0) s m args below meth c H locs 0 0 Q (F0 m 25 ls []) := by
      intro k1
      induction k1 with
      | zero => intro z5 z6 H locs ls z5_a z5_b z6_a z6_b hm; exact absurd hm (Nat.not_lt_zero _)
      | succ k1 ih1 =>
        intro z5 z6 H locs ls z5_a z5_b z6_a z6_b hm1 w hl
        refine lv_iload hx hb dX7_daysLeft_25 (lv_at hl 0 rfl) ?_
        refine lv_sipush (v := iI 400) hx hb dX7_daysLeft_27 (by decide +kernel) ?_
        refine lv_icmp_ge (tgt := 70) hx hb dX7_daysLeft_30 (by decide) (fun c_7 => ?_) (fun c_7 => ?_)
        · replace c_7 := (iI_le (by decide) (by decide) (Int.le_trans (by decide) z5_a) (Int.le_trans z5_b (by decide))).mp c_7
          refine lv_iconst (v := iI (-1)) hx hb dX7_daysLeft_70 (by decide +kernel) ?_
          exact ret _ (-1) _ _ _ _ _ [0, 1, 2, 3] dX7_daysLeft_71 ⟨rfl, (show (-2147483648) ≤ (-1) from by decide), (show ((-1) : Int) ≤ 2147483647 from by decide)⟩ w (by decide) rfl
        · replace c_7 : z5 < 400 := Int.not_le.mp (fun h => c_7 ((iI_le (by decide) (by decide) (Int.le_trans (by decide) z5_a) (Int.le_trans z5_b (by decide))).mpr h))
          refine lv_iload_n hx hb dX7_daysLeft_33 rfl (lv_at hl 1 rfl) ?_
          refine lv_aload_n hx hb dX7_daysLeft_34 rfl (lv_at hl 3 rfl) ?_
          refine lv_iload hx hb dX7_daysLeft_35 (lv_at hl 0 rfl) ?_
          refine k_I (ce := 0) (sl := 0) (rest := [.int (iI z6)]) (wr := [(a0, .inr (7, [.ref a2, .ref a3, .ref a4, .ref a5, .int r0, .int r1, .int r2, .int r3])), (a2, .inl (T 0, 9, .inl f0)), (a4, .inl (T 0, 9, .inl (cI f1)))]) (r_V (f := 0) [1] M w V_HookedCity_State_81 G832 G833 (c231_X9_wearsOn l D T _ a1 z5 a6 a7 a8 a9 a10 a11 a12 a13 a14 x1 x2 x3 x4 x5 x6 x7 x8 x9 z5_a z5_b x1_a x1_b x2_a x2_b x3_a x3_b x4_a x4_b x5_a x5_b x6_a x6_b x7_a x7_b x8_a x8_b x9_a x9_b) 1 clX9 rfl rfl (by decide) rfl hl.1 rfl (Nat.le_of_ble_eq_true rfl) dX7_daysLeft_37 (by decide) (by decide) (by decide) (by decide)) w [1] [0, 2, 3] rfl rfl (by decide) (by decide) rfl rfl (fun v z8 H locs hp w => ?_)
          have hv : iI z8 = v := hp.1
          subst hv
          have z8_a : 0 ≤ z8 := hp.2.1
          have z8_b : z8 ≤ 1 := hp.2.2
          have w : WD D A s.heap [(a0, .inr (7, [.ref a2, .ref a3, .ref a4, .ref a5, .int r0, .int r1, .int r2, .int r3])), (a2, .inl (T 0, 9, .inl f0)), (a4, .inl (T 0, 9, .inl (cI f1))), (a1, .inr (9, [.ref a6, .ref a7, .ref a8, .ref a9, .ref a10, .ref a11, .ref a12, .ref a13, .ref a14, .int (iI x1), .int (iI x2), .int (iI x3), .int (iI x4), .int (iI x5), .int (iI x6), .int (iI x7), .int (iI x8), .int (iI x9)]))] H locs := w
          refine lv_if_eq (tgt := 47) hx hb dX7_daysLeft_40 (by decide) (fun c_9 => ?_) (fun c_9 => ?_)
          · replace c_9 := (iz_eq (Int.le_trans (by decide) z8_a) (Int.le_trans z8_b (by decide))).mp c_9
            refine lv_iconst (v := iI 0) hx hb dX7_daysLeft_47 (by decide +kernel) ?_
            refine r_isub (v := iI (z6 - 0)) M (iI_sub _ _) dX7_daysLeft_48 ?_
            refine lv_istore_n (lv' := [(3, .int (iI (z6 - 0))), (4, .int (iI z5)), (0, .ref a0), (1, .ref a1), (2, .int (iI x0))]) hx hb dX7_daysLeft_49 rfl hl (by decide) rfl (fun ls hl => ?_)
            refine lv_iload_n hx hb dX7_daysLeft_50 rfl (lv_at hl 0 rfl) ?_
            refine lv_if_ne (tgt := 64) hx hb dX7_daysLeft_51 (by decide) (fun c_10 => ?_) (fun c_10 => ?_)
            · replace c_10 : ¬ (z6 - 0) = 0 := fun h => c_10 ((iz_eq (by omega) (by omega)).mpr h)
              refine lv_iinc (v := iI (z5 + 1)) (lv' := [(4, .int (iI (z5 + 1))), (3, .int (iI (z6 - 0))), (0, .ref a0), (1, .ref a1), (2, .int (iI x0))]) hx hb dX7_daysLeft_64 hl (k := 1) rfl (ii_inc (by decide +kernel)) (by decide) rfl (fun ls hl => ?_)
              refine lv_goto (tgt := 25) hx hb dX7_daysLeft_67 (by decide) ?_
              exact ih1 (z5 + 1) (z6 - 0) _ _ _ (by omega) (by omega) (by omega) (by omega) (by omega) (w.sub [0, 3, 1, 2] (by decide) rfl) (lv_sub hl [0, 1, 2, 3, 4] rfl)
            · replace c_10 := (iz_eq (by omega) (by omega)).mp c_10
              refine lv_iload hx hb dX7_daysLeft_54 (lv_at hl 1 rfl) ?_
              refine lv_aload_n hx hb dX7_daysLeft_56 rfl (lv_at hl 2 rfl) ?_
              refine r_get (v := .int r0) M w 0 4 clX7 rfl (by decide) G229 rfl rfl dX7_daysLeft_57 ?_
              refine b_any (fun z11 z11_a z11_b => ?_)
              refine r_isub (v := _) M rfl dX7_daysLeft_60 ?_
              refine b_any (fun z12 z12_a z12_b => ?_)
              refine lv_iconst (v := iI 1) hx hb dX7_daysLeft_61 (by decide +kernel) ?_
              refine r_iadd (v := _) M rfl dX7_daysLeft_62 ?_
              refine b_any (fun z13 z13_a z13_b => ?_)
              exact ret _ z13 _ _ _ _ _ [0, 3, 1, 2] dX7_daysLeft_63 ⟨rfl, z13_a, z13_b⟩ w (by decide) rfl
          · replace c_9 : ¬ z8 = 0 := fun h => c_9 ((iz_eq (Int.le_trans (by decide) z8_a) (Int.le_trans z8_b (by decide))).mpr h)
            refine lv_iconst (v := iI 1) hx hb dX7_daysLeft_43 (by decide +kernel) ?_
            refine lv_goto (tgt := 48) hx hb dX7_daysLeft_44 (by decide) ?_
            refine r_isub (v := _) M rfl dX7_daysLeft_48 ?_
            refine b_any (fun z14 z14_a z14_b => ?_)
            refine lv_istore_n (lv' := [(3, .int (iI z14)), (4, .int (iI z5)), (0, .ref a0), (1, .ref a1), (2, .int (iI x0))]) hx hb dX7_daysLeft_49 rfl hl (by decide) rfl (fun ls hl => ?_)
            refine lv_iload_n hx hb dX7_daysLeft_50 rfl (lv_at hl 0 rfl) ?_
            refine lv_if_ne (tgt := 64) hx hb dX7_daysLeft_51 (by decide) (fun c_15 => ?_) (fun c_15 => ?_)
            · replace c_15 : ¬ z14 = 0 := fun h => c_15 ((iz_eq (Int.le_trans (by decide) z14_a) (Int.le_trans z14_b (by decide))).mpr h)
              refine lv_iinc (v := iI (z5 + 1)) (lv' := [(4, .int (iI (z5 + 1))), (3, .int (iI z14)), (0, .ref a0), (1, .ref a1), (2, .int (iI x0))]) hx hb dX7_daysLeft_64 hl (k := 1) rfl (ii_inc (by decide +kernel)) (by decide) rfl (fun ls hl => ?_)
              refine lv_goto (tgt := 25) hx hb dX7_daysLeft_67 (by decide) ?_
              exact ih1 (z5 + 1) z14 _ _ _ (by omega) (by omega) z14_a z14_b (by omega) (w.sub [0, 3, 1, 2] (by decide) rfl) (lv_sub hl [0, 1, 2, 3, 4] rfl)
            · replace c_15 := (iz_eq (Int.le_trans (by decide) z14_a) (Int.le_trans z14_b (by decide))).mp c_15
              refine lv_iload hx hb dX7_daysLeft_54 (lv_at hl 1 rfl) ?_
              refine lv_aload_n hx hb dX7_daysLeft_56 rfl (lv_at hl 2 rfl) ?_
              refine r_get (v := .int r0) M w 0 4 clX7 rfl (by decide) G229 rfl rfl dX7_daysLeft_57 ?_
              refine b_any (fun z16 z16_a z16_b => ?_)
              refine r_isub (v := _) M rfl dX7_daysLeft_60 ?_
              refine b_any (fun z17 z17_a z17_b => ?_)
              refine lv_iconst (v := iI 1) hx hb dX7_daysLeft_61 (by decide +kernel) ?_
              refine r_iadd (v := _) M rfl dX7_daysLeft_62 ?_
              refine b_any (fun z18 z18_a z18_b => ?_)
              exact ret _ z18 _ _ _ _ _ [0, 3, 1, 2] dX7_daysLeft_63 ⟨rfl, z18_a, z18_b⟩ w (by decide) rfl
    exact loop1 (((400 - z4) : Int).toNat + 1) z4 z3 _ _ _ z4_a z4_b z3_a z3_b (Nat.lt_succ_self _) w (lv_sub hl [0, 1, 2, 3, 4] rfl)
  · replace c_2 := (iI_eq (by omega) (by omega) (by decide) (by decide)).mp c_2
    refine lv_iconst (v := iI (-1)) hx hb dX7_daysLeft_10 (by decide +kernel) ?_
    exact ret _ (-1) _ _ _ _ _ [0, 1, 2, 3] dX7_daysLeft_11 ⟨rfl, (show (-2147483648) ≤ (-1) from by decide), (show ((-1) : Int) ≤ 2147483647 from by decide)⟩ w (by decide) rfl
