theorem dX12_stay_0 : decode cX12_stay 0 = .ok (.iconst 0, 1) := by decide +kernel
theorem dX12_stay_1 : decode cX12_stay 1 = .ok (.istore_n 2, 1) := by decide +kernel
theorem dX12_stay_2 : decode cX12_stay 2 = .ok (.iload_n 2, 1) := by decide +kernel
theorem dX12_stay_3 : decode cX12_stay 3 = .ok (.bipush 34, 2) := by decide +kernel
theorem dX12_stay_5 : decode cX12_stay 5 = .ok (.if_icmp .ge 41, 3) := by decide +kernel
theorem dX12_stay_46 : decode cX12_stay 46 = .ok (.iload_n 1, 1) := by decide +kernel
theorem dX12_stay_47 : decode cX12_stay 47 = .ok (.ifCond .ne 4, 3) := by decide +kernel
theorem dX12_stay_51 : decode cX12_stay 51 = .ok (.aload_n 0, 1) := by decide +kernel
theorem dX12_stay_52 : decode cX12_stay 52 = .ok (.invokevirtual 284, 3) := by decide +kernel
theorem dX12_stay_55 : decode cX12_stay 55 = .ok (.aload_n 0, 1) := by decide +kernel
theorem dX12_stay_56 : decode cX12_stay 56 = .ok (.invokevirtual 367, 3) := by decide +kernel
theorem dX12_stay_59 : decode cX12_stay 59 = .ok (.return_, 1) := by decide +kernel
theorem dX12_stay_50 : decode cX12_stay 50 = .ok (.return_, 1) := by decide +kernel
theorem dX12_stay_8 : decode cX12_stay 8 = .ok (.aload_n 0, 1) := by decide +kernel
theorem dX12_stay_9 : decode cX12_stay 9 = .ok (.getfield 98, 3) := by decide +kernel
theorem dX12_stay_12 : decode cX12_stay 12 = .ok (.bipush 53, 2) := by decide +kernel
theorem dX12_stay_14 : decode cX12_stay 14 = .ok (.iload_n 2, 1) := by decide +kernel
theorem dX12_stay_15 : decode cX12_stay 15 = .ok (.iadd, 1) := by decide +kernel
theorem dX12_stay_16 : decode cX12_stay 16 = .ok (.iaload, 1) := by decide +kernel
theorem dX12_stay_17 : decode cX12_stay 17 = .ok (.istore_n 3, 1) := by decide +kernel
theorem dX12_stay_18 : decode cX12_stay 18 = .ok (.aload_n 0, 1) := by decide +kernel
theorem dX12_stay_19 : decode cX12_stay 19 = .ok (.getfield 98, 3) := by decide +kernel
theorem dX12_stay_22 : decode cX12_stay 22 = .ok (.bipush 53, 2) := by decide +kernel
theorem dX12_stay_24 : decode cX12_stay 24 = .ok (.iload_n 2, 1) := by decide +kernel
theorem dX12_stay_25 : decode cX12_stay 25 = .ok (.iadd, 1) := by decide +kernel
theorem dX12_stay_26 : decode cX12_stay 26 = .ok (.aload_n 0, 1) := by decide +kernel
theorem dX12_stay_27 : decode cX12_stay 27 = .ok (.getfield 110, 3) := by decide +kernel
theorem dX12_stay_30 : decode cX12_stay 30 = .ok (.iload_n 2, 1) := by decide +kernel
theorem dX12_stay_31 : decode cX12_stay 31 = .ok (.iaload, 1) := by decide +kernel
theorem dX12_stay_32 : decode cX12_stay 32 = .ok (.iastore, 1) := by decide +kernel
theorem dX12_stay_33 : decode cX12_stay 33 = .ok (.aload_n 0, 1) := by decide +kernel
theorem dX12_stay_34 : decode cX12_stay 34 = .ok (.getfield 110, 3) := by decide +kernel
theorem dX12_stay_37 : decode cX12_stay 37 = .ok (.iload_n 2, 1) := by decide +kernel
theorem dX12_stay_38 : decode cX12_stay 38 = .ok (.iload_n 3, 1) := by decide +kernel
theorem dX12_stay_39 : decode cX12_stay 39 = .ok (.iastore, 1) := by decide +kernel
theorem dX12_stay_40 : decode cX12_stay 40 = .ok (.iinc 2 1, 3) := by decide +kernel
theorem dX12_stay_43 : decode cX12_stay 43 = .ok (.goto (-41), 3) := by decide +kernel
theorem dX12_readPersonName_0 : decode cX12_readPersonName 0 = .ok (.aload_n 0, 1) := by decide +kernel
theorem dX12_readPersonName_1 : decode cX12_readPersonName 1 = .ok (.invokevirtual 175, 3) := by decide +kernel
theorem dX12_readPersonName_4 : decode cX12_readPersonName 4 = .ok (.ifCond .ne 9, 3) := by decide +kernel
theorem dX12_readPersonName_13 : decode cX12_readPersonName 13 = .ok (.aload_n 0, 1) := by decide +kernel
theorem dX12_readPersonName_14 : decode cX12_readPersonName 14 = .ok (.aload_n 0, 1) := by decide +kernel
theorem dX12_readPersonName_15 : decode cX12_readPersonName 15 = .ok (.getfield 113, 3) := by decide +kernel
theorem dX12_readPersonName_18 : decode cX12_readPersonName 18 = .ok (.iconst 0, 1) := by decide +kernel
theorem dX12_readPersonName_19 : decode cX12_readPersonName 19 = .ok (.aload_n 0, 1) := by decide +kernel
theorem dX12_readPersonName_20 : decode cX12_readPersonName 20 = .ok (.getfield 98, 3) := by decide +kernel
theorem dX12_readPersonName_23 : decode cX12_readPersonName 23 = .ok (.iconst 0, 1) := by decide +kernel
theorem dX12_readPersonName_24 : decode cX12_readPersonName 24 = .ok (.iaload, 1) := by decide +kernel
theorem dX12_readPersonName_25 : decode cX12_readPersonName 25 = .ok (.aload_n 0, 1) := by decide +kernel
theorem dX12_readPersonName_26 : decode cX12_readPersonName 26 = .ok (.getfield 43, 3) := by decide +kernel
theorem dX12_readPersonName_29 : decode cX12_readPersonName 29 = .ok (.invokestatic 179, 3) := by decide +kernel
theorem dX12_readPersonName_32 : decode cX12_readPersonName 32 = .ok (.putfield 79, 3) := by decide +kernel
theorem dX12_readPersonName_35 : decode cX12_readPersonName 35 = .ok (.aload_n 0, 1) := by decide +kernel
theorem dX12_readPersonName_36 : decode cX12_readPersonName 36 = .ok (.getfield 79, 3) := by decide +kernel
theorem dX12_readPersonName_39 : decode cX12_readPersonName 39 = .ok (.iconst (-1), 1) := by decide +kernel
theorem dX12_readPersonName_40 : decode cX12_readPersonName 40 = .ok (.if_icmp .ne 9, 3) := by decide +kernel
theorem dX12_readPersonName_49 : decode cX12_readPersonName 49 = .ok (.aload_n 0, 1) := by decide +kernel
theorem dX12_readPersonName_50 : decode cX12_readPersonName 50 = .ok (.invokevirtual 82, 3) := by decide +kernel
theorem dX12_readPersonName_53 : decode cX12_readPersonName 53 = .ok (.iconst 1, 1) := by decide +kernel
theorem dX12_readPersonName_54 : decode cX12_readPersonName 54 = .ok (.ireturn, 1) := by decide +kernel
theorem dX12_readPersonName_43 : decode cX12_readPersonName 43 = .ok (.aload_n 0, 1) := by decide +kernel
theorem dX12_readPersonName_44 : decode cX12_readPersonName 44 = .ok (.iconst 3, 1) := by decide +kernel
theorem dX12_readPersonName_45 : decode cX12_readPersonName 45 = .ok (.invokevirtual 72, 3) := by decide +kernel
theorem dX12_readPersonName_48 : decode cX12_readPersonName 48 = .ok (.ireturn, 1) := by decide +kernel
theorem dX12_readPersonName_7 : decode cX12_readPersonName 7 = .ok (.aload_n 0, 1) := by decide +kernel
theorem dX12_readPersonName_8 : decode cX12_readPersonName 8 = .ok (.iconst 1, 1) := by decide +kernel
theorem dX12_readPersonName_9 : decode cX12_readPersonName 9 = .ok (.invokevirtual 72, 3) := by decide +kernel
theorem dX12_readPersonName_12 : decode cX12_readPersonName 12 = .ok (.ireturn, 1) := by decide +kernel
theorem dX12_keep_0 : decode cX12_keep 0 = .ok (.iload_n 2, 1) := by decide +kernel
theorem dX12_keep_1 : decode cX12_keep 1 = .ok (.ifCond .eq 13, 3) := by decide +kernel
theorem dX12_keep_14 : decode cX12_keep 14 = .ok (.iload_n 2, 1) := by decide +kernel
theorem dX12_keep_15 : decode cX12_keep 15 = .ok (.ireturn, 1) := by decide +kernel
theorem dX12_keep_4 : decode cX12_keep 4 = .ok (.aload_n 0, 1) := by decide +kernel
theorem dX12_keep_5 : decode cX12_keep 5 = .ok (.getfield 160, 3) := by decide +kernel
theorem G1504 : Cond.fieldLink "HookedCityModel" 160 "HookedCityModel" "line" "[I" ∈ GW := gw_i 1504 (by decide +kernel) rfl
theorem dX12_keep_8 : decode cX12_keep 8 = .ok (.iload_n 1, 1) := by decide +kernel
theorem dX12_keep_9 : decode cX12_keep 9 = .ok (.aload_n 0, 1) := by decide +kernel
theorem dX12_keep_10 : decode cX12_keep 10 = .ok (.getfield 79, 3) := by decide +kernel
theorem dX12_keep_13 : decode cX12_keep 13 = .ok (.iastore, 1) := by decide +kernel
theorem dX12_readDoes_0 : decode cX12_readDoes 0 = .ok (.aload_n 0, 1) := by decide +kernel
theorem dX12_readDoes_1 : decode cX12_readDoes 1 = .ok (.bipush 11, 2) := by decide +kernel
theorem dX12_readDoes_3 : decode cX12_readDoes 3 = .ok (.invokevirtual 183, 3) := by decide +kernel
theorem dX12_readDoes_6 : decode cX12_readDoes 6 = .ok (.ifCond .ne 18, 3) := by decide +kernel
theorem dX12_readDoes_24 : decode cX12_readDoes 24 = .ok (.aload_n 0, 1) := by decide +kernel
theorem dX12_readDoes_25 : decode cX12_readDoes 25 = .ok (.getfield 160, 3) := by decide +kernel
theorem dX12_readDoes_28 : decode cX12_readDoes 28 = .ok (.iload_n 1, 1) := by decide +kernel
theorem dX12_readDoes_29 : decode cX12_readDoes 29 = .ok (.aload_n 0, 1) := by decide +kernel
theorem dX12_readDoes_30 : decode cX12_readDoes 30 = .ok (.bipush 11, 2) := by decide +kernel
theorem dX12_readDoes_32 : decode cX12_readDoes 32 = .ok (.invokevirtual 183, 3) := by decide +kernel
theorem dX12_readDoes_35 : decode cX12_readDoes 35 = .ok (.ifCond .eq 7, 3) := by decide +kernel
theorem dX12_readDoes_42 : decode cX12_readDoes 42 = .ok (.iconst 1, 1) := by decide +kernel
theorem dX12_readDoes_43 : decode cX12_readDoes 43 = .ok (.iastore, 1) := by decide +kernel
theorem dX12_readDoes_44 : decode cX12_readDoes 44 = .ok (.aload_n 0, 1) := by decide +kernel
theorem dX12_readDoes_45 : decode cX12_readDoes 45 = .ok (.invokevirtual 82, 3) := by decide +kernel
theorem dX12_readDoes_48 : decode cX12_readDoes 48 = .ok (.aload_n 0, 1) := by decide +kernel
theorem dX12_readDoes_49 : decode cX12_readDoes 49 = .ok (.iload_n 1, 1) := by decide +kernel
theorem dX12_readDoes_50 : decode cX12_readDoes 50 = .ok (.iconst 2, 1) := by decide +kernel
theorem dX12_readDoes_51 : decode cX12_readDoes 51 = .ok (.iadd, 1) := by decide +kernel
theorem dX12_readDoes_52 : decode cX12_readDoes 52 = .ok (.aload_n 0, 1) := by decide +kernel
theorem dX12_readDoes_53 : decode cX12_readDoes 53 = .ok (.invokevirtual 370, 3) := by decide +kernel
theorem G1990 : Cond.code ⟨"HookedCityModel", "readPersonName", "()Z"⟩ prog_14_method_104_code 1 (some .boolean) ∈ GW := gw_i 1990 (by decide +kernel) rfl
theorem G1987 : Cond.methodLink "HookedCityModel" 370 ⟨"HookedCityModel", "readPersonName", "()Z"⟩ ∈ GW := gw_i 1987 (by decide +kernel) rfl
theorem V_HookedCityModel_370 : VL "HookedCityModel" 370 yX12_readPersonName cX12_readPersonName 1 (some .boolean) 0 := ⟨G1990, G1987, G131, by decide +kernel, by decide +kernel, by decide +kernel⟩
theorem G1989 : Cond.instanceMethod ⟨"HookedCityModel", "readPersonName", "()Z"⟩ ∈ GW := gw_i 1989 (by decide +kernel) rfl
theorem G104 : Cond.selects "HookedCityModel" ⟨"HookedCityModel", "readPersonName", "()Z"⟩ ⟨"HookedCityModel", "readPersonName", "()Z"⟩ ∈ GW := gw_i 104 (by decide +kernel) rfl
theorem dX12_readDoes_56 : decode cX12_readDoes 56 = .ok (.invokevirtual 373, 3) := by decide +kernel
theorem G1994 : Cond.code ⟨"HookedCityModel", "keep", "(IZ)Z"⟩ prog_14_method_103_code 3 (some .boolean) ∈ GW := gw_i 1994 (by decide +kernel) rfl
theorem G1991 : Cond.methodLink "HookedCityModel" 373 ⟨"HookedCityModel", "keep", "(IZ)Z"⟩ ∈ GW := gw_i 1991 (by decide +kernel) rfl
theorem V_HookedCityModel_373 : VL "HookedCityModel" 373 yX12_keep cX12_keep 3 (some .boolean) 2 := ⟨G1994, G1991, G131, by decide +kernel, by decide +kernel, by decide +kernel⟩
theorem G1993 : Cond.instanceMethod ⟨"HookedCityModel", "keep", "(IZ)Z"⟩ ∈ GW := gw_i 1993 (by decide +kernel) rfl
theorem G105 : Cond.selects "HookedCityModel" ⟨"HookedCityModel", "keep", "(IZ)Z"⟩ ⟨"HookedCityModel", "keep", "(IZ)Z"⟩ ∈ GW := gw_i 105 (by decide +kernel) rfl
theorem dX12_readDoes_59 : decode cX12_readDoes 59 = .ok (.ifCond .eq 31, 3) := by decide +kernel
theorem dX12_readDoes_90 : decode cX12_readDoes 90 = .ok (.iconst 0, 1) := by decide +kernel
theorem dX12_readDoes_91 : decode cX12_readDoes 91 = .ok (.ireturn, 1) := by decide +kernel
theorem dX12_readDoes_62 : decode cX12_readDoes 62 = .ok (.aload_n 0, 1) := by decide +kernel
theorem dX12_readDoes_63 : decode cX12_readDoes 63 = .ok (.getfield 160, 3) := by decide +kernel
theorem dX12_readDoes_66 : decode cX12_readDoes 66 = .ok (.iload_n 1, 1) := by decide +kernel
theorem dX12_readDoes_67 : decode cX12_readDoes 67 = .ok (.iaload, 1) := by decide +kernel
theorem dX12_readDoes_68 : decode cX12_readDoes 68 = .ok (.iconst 1, 1) := by decide +kernel
theorem dX12_readDoes_69 : decode cX12_readDoes 69 = .ok (.if_icmp .eq 17, 3) := by decide +kernel
theorem dX12_readDoes_86 : decode cX12_readDoes 86 = .ok (.iconst 1, 1) := by decide +kernel
theorem dX12_readDoes_87 : decode cX12_readDoes 87 = .ok (.goto 4, 3) := by decide +kernel
theorem dX12_readDoes_72 : decode cX12_readDoes 72 = .ok (.aload_n 0, 1) := by decide +kernel
theorem dX12_readDoes_73 : decode cX12_readDoes 73 = .ok (.iload_n 1, 1) := by decide +kernel
theorem dX12_readDoes_74 : decode cX12_readDoes 74 = .ok (.iconst 3, 1) := by decide +kernel
theorem dX12_readDoes_75 : decode cX12_readDoes 75 = .ok (.iadd, 1) := by decide +kernel
theorem dX12_readDoes_76 : decode cX12_readDoes 76 = .ok (.aload_n 0, 1) := by decide +kernel
theorem dX12_readDoes_77 : decode cX12_readDoes 77 = .ok (.invokevirtual 370, 3) := by decide +kernel
theorem dX12_readDoes_80 : decode cX12_readDoes 80 = .ok (.invokevirtual 373, 3) := by decide +kernel
theorem dX12_readDoes_83 : decode cX12_readDoes 83 = .ok (.ifCond .eq 7, 3) := by decide +kernel
theorem dX12_readDoes_38 : decode cX12_readDoes 38 = .ok (.iconst 0, 1) := by decide +kernel
theorem dX12_readDoes_39 : decode cX12_readDoes 39 = .ok (.goto 4, 3) := by decide +kernel
theorem dX12_readDoes_9 : decode cX12_readDoes 9 = .ok (.aload_n 0, 1) := by decide +kernel
theorem dX12_readDoes_10 : decode cX12_readDoes 10 = .ok (.bipush 12, 2) := by decide +kernel
theorem dX12_readDoes_12 : decode cX12_readDoes 12 = .ok (.invokevirtual 183, 3) := by decide +kernel
theorem dX12_readDoes_15 : decode cX12_readDoes 15 = .ok (.ifCond .ne 9, 3) := by decide +kernel
theorem dX12_readDoes_18 : decode cX12_readDoes 18 = .ok (.aload_n 0, 1) := by decide +kernel
theorem dX12_readDoes_19 : decode cX12_readDoes 19 = .ok (.iconst 1, 1) := by decide +kernel
theorem dX12_readDoes_20 : decode cX12_readDoes 20 = .ok (.invokevirtual 72, 3) := by decide +kernel
theorem dX12_readDoes_23 : decode cX12_readDoes 23 = .ok (.ireturn, 1) := by decide +kernel
theorem dX12_readBookLine_0 : decode cX12_readBookLine 0 = .ok (.aload_n 0, 1) := by decide +kernel
theorem dX12_readBookLine_1 : decode cX12_readBookLine 1 = .ok (.bipush 13, 2) := by decide +kernel
theorem dX12_readBookLine_3 : decode cX12_readBookLine 3 = .ok (.invokevirtual 183, 3) := by decide +kernel
theorem dX12_readBookLine_6 : decode cX12_readBookLine 6 = .ok (.istore_n 1, 1) := by decide +kernel
theorem dX12_readBookLine_7 : decode cX12_readBookLine 7 = .ok (.aload_n 0, 1) := by decide +kernel
theorem dX12_readBookLine_8 : decode cX12_readBookLine 8 = .ok (.bipush 14, 2) := by decide +kernel
theorem dX12_readBookLine_10 : decode cX12_readBookLine 10 = .ok (.invokevirtual 183, 3) := by decide +kernel
theorem dX12_readBookLine_13 : decode cX12_readBookLine 13 = .ok (.istore_n 2, 1) := by decide +kernel
theorem dX12_readBookLine_14 : decode cX12_readBookLine 14 = .ok (.iload_n 1, 1) := by decide +kernel
theorem dX12_readBookLine_15 : decode cX12_readBookLine 15 = .ok (.ifCond .ne 49, 3) := by decide +kernel
theorem dX12_readBookLine_64 : decode cX12_readBookLine 64 = .ok (.aload_n 0, 1) := by decide +kernel
theorem dX12_readBookLine_65 : decode cX12_readBookLine 65 = .ok (.getfield 376, 3) := by decide +kernel
theorem G1506 : Cond.fieldLink "HookedCityModel" 376 "HookedCityModel" "lineMany" "I" ∈ GW := gw_i 1506 (by decide +kernel) rfl
theorem dX12_readBookLine_68 : decode cX12_readBookLine 68 = .ok (.bipush 40, 2) := by decide +kernel
theorem dX12_readBookLine_70 : decode cX12_readBookLine 70 = .ok (.if_icmp .ne 9, 3) := by decide +kernel
theorem dX12_readBookLine_79 : decode cX12_readBookLine 79 = .ok (.iconst 4, 1) := by decide +kernel
theorem dX12_readBookLine_80 : decode cX12_readBookLine 80 = .ok (.aload_n 0, 1) := by decide +kernel
theorem dX12_readBookLine_81 : decode cX12_readBookLine 81 = .ok (.getfield 376, 3) := by decide +kernel
theorem dX12_readBookLine_84 : decode cX12_readBookLine 84 = .ok (.imul, 1) := by decide +kernel
theorem dX12_readBookLine_85 : decode cX12_readBookLine 85 = .ok (.istore_n 3, 1) := by decide +kernel
theorem dX12_readBookLine_86 : decode cX12_readBookLine 86 = .ok (.aload_n 0, 1) := by decide +kernel
theorem dX12_readBookLine_87 : decode cX12_readBookLine 87 = .ok (.getfield 160, 3) := by decide +kernel
theorem dX12_readBookLine_90 : decode cX12_readBookLine 90 = .ok (.iload_n 3, 1) := by decide +kernel
theorem dX12_readBookLine_91 : decode cX12_readBookLine 91 = .ok (.iload_n 1, 1) := by decide +kernel
theorem dX12_readBookLine_92 : decode cX12_readBookLine 92 = .ok (.ifCond .eq 7, 3) := by decide +kernel
theorem dX12_readBookLine_95 : decode cX12_readBookLine 95 = .ok (.iconst 2, 1) := by decide +kernel
theorem dX12_readBookLine_96 : decode cX12_readBookLine 96 = .ok (.goto 4, 3) := by decide +kernel
theorem dX12_readBookLine_100 : decode cX12_readBookLine 100 = .ok (.iastore, 1) := by decide +kernel
theorem dX12_readBookLine_101 : decode cX12_readBookLine 101 = .ok (.aload_n 0, 1) := by decide +kernel
theorem dX12_readBookLine_102 : decode cX12_readBookLine 102 = .ok (.getfield 160, 3) := by decide +kernel
theorem dX12_readBookLine_105 : decode cX12_readBookLine 105 = .ok (.iload_n 3, 1) := by decide +kernel
theorem dX12_readBookLine_106 : decode cX12_readBookLine 106 = .ok (.iconst 1, 1) := by decide +kernel
theorem dX12_readBookLine_107 : decode cX12_readBookLine 107 = .ok (.iadd, 1) := by decide +kernel
theorem dX12_readBookLine_108 : decode cX12_readBookLine 108 = .ok (.iload_n 1, 1) := by decide +kernel
theorem dX12_readBookLine_109 : decode cX12_readBookLine 109 = .ok (.ifCond .ne 7, 3) := by decide +kernel
theorem dX12_readBookLine_116 : decode cX12_readBookLine 116 = .ok (.iconst 0, 1) := by decide +kernel
theorem dX12_readBookLine_117 : decode cX12_readBookLine 117 = .ok (.goto 22, 3) := by decide +kernel
theorem dX12_readBookLine_139 : decode cX12_readBookLine 139 = .ok (.iastore, 1) := by decide +kernel
theorem dX12_readBookLine_140 : decode cX12_readBookLine 140 = .ok (.aload_n 0, 1) := by decide +kernel
theorem dX12_readBookLine_141 : decode cX12_readBookLine 141 = .ok (.getfield 160, 3) := by decide +kernel
theorem dX12_readBookLine_144 : decode cX12_readBookLine 144 = .ok (.iload_n 3, 1) := by decide +kernel
theorem dX12_readBookLine_145 : decode cX12_readBookLine 145 = .ok (.iconst 2, 1) := by decide +kernel
theorem dX12_readBookLine_146 : decode cX12_readBookLine 146 = .ok (.iadd, 1) := by decide +kernel
theorem dX12_readBookLine_147 : decode cX12_readBookLine 147 = .ok (.iconst 0, 1) := by decide +kernel
theorem dX12_readBookLine_148 : decode cX12_readBookLine 148 = .ok (.iastore, 1) := by decide +kernel
theorem dX12_readBookLine_149 : decode cX12_readBookLine 149 = .ok (.aload_n 0, 1) := by decide +kernel
theorem dX12_readBookLine_150 : decode cX12_readBookLine 150 = .ok (.getfield 160, 3) := by decide +kernel
theorem dX12_readBookLine_153 : decode cX12_readBookLine 153 = .ok (.iload_n 3, 1) := by decide +kernel
theorem dX12_readBookLine_154 : decode cX12_readBookLine 154 = .ok (.iconst 3, 1) := by decide +kernel
theorem dX12_readBookLine_155 : decode cX12_readBookLine 155 = .ok (.iadd, 1) := by decide +kernel
theorem dX12_readBookLine_156 : decode cX12_readBookLine 156 = .ok (.iconst 0, 1) := by decide +kernel
theorem dX12_readBookLine_157 : decode cX12_readBookLine 157 = .ok (.iastore, 1) := by decide +kernel
theorem dX12_readBookLine_158 : decode cX12_readBookLine 158 = .ok (.aload_n 0, 1) := by decide +kernel
theorem dX12_readBookLine_159 : decode cX12_readBookLine 159 = .ok (.invokevirtual 82, 3) := by decide +kernel
theorem dX12_readBookLine_162 : decode cX12_readBookLine 162 = .ok (.iload_n 1, 1) := by decide +kernel
theorem dX12_readBookLine_163 : decode cX12_readBookLine 163 = .ok (.ifCond .eq 30, 3) := by decide +kernel
theorem dX12_readBookLine_166 : decode cX12_readBookLine 166 = .ok (.aload_n 0, 1) := by decide +kernel
theorem dX12_readBookLine_167 : decode cX12_readBookLine 167 = .ok (.iload_n 3, 1) := by decide +kernel
theorem dX12_readBookLine_168 : decode cX12_readBookLine 168 = .ok (.iconst 1, 1) := by decide +kernel
theorem dX12_readBookLine_169 : decode cX12_readBookLine 169 = .ok (.iadd, 1) := by decide +kernel
theorem dX12_readBookLine_170 : decode cX12_readBookLine 170 = .ok (.aload_n 0, 1) := by decide +kernel
theorem dX12_readBookLine_171 : decode cX12_readBookLine 171 = .ok (.invokevirtual 370, 3) := by decide +kernel
theorem dX12_readBookLine_174 : decode cX12_readBookLine 174 = .ok (.invokevirtual 373, 3) := by decide +kernel
theorem dX12_readBookLine_177 : decode cX12_readBookLine 177 = .ok (.ifCond .eq 14, 3) := by decide +kernel
theorem dX12_readBookLine_191 : decode cX12_readBookLine 191 = .ok (.iconst 0, 1) := by decide +kernel
theorem dX12_readBookLine_192 : decode cX12_readBookLine 192 = .ok (.ireturn, 1) := by decide +kernel
theorem dX12_readBookLine_180 : decode cX12_readBookLine 180 = .ok (.aload_n 0, 1) := by decide +kernel
theorem dX12_readBookLine_181 : decode cX12_readBookLine 181 = .ok (.invokevirtual 230, 3) := by decide +kernel
theorem dX12_readBookLine_184 : decode cX12_readBookLine 184 = .ok (.ifCond .eq 7, 3) := by decide +kernel
theorem dX12_readBookLine_187 : decode cX12_readBookLine 187 = .ok (.iconst 1, 1) := by decide +kernel
theorem dX12_readBookLine_188 : decode cX12_readBookLine 188 = .ok (.goto 4, 3) := by decide +kernel
theorem dX12_readBookLine_73 : decode cX12_readBookLine 73 = .ok (.aload_n 0, 1) := by decide +kernel
theorem dX12_readBookLine_74 : decode cX12_readBookLine 74 = .ok (.iconst 4, 1) := by decide +kernel
theorem dX12_readBookLine_75 : decode cX12_readBookLine 75 = .ok (.invokevirtual 72, 3) := by decide +kernel
theorem dX12_readBookLine_78 : decode cX12_readBookLine 78 = .ok (.ireturn, 1) := by decide +kernel
theorem dX12_readBookLine_18 : decode cX12_readBookLine 18 = .ok (.iload_n 2, 1) := by decide +kernel
theorem dX12_readBookLine_19 : decode cX12_readBookLine 19 = .ok (.ifCond .ne 45, 3) := by decide +kernel
theorem dX12_readBookLine_99 : decode cX12_readBookLine 99 = .ok (.iconst 3, 1) := by decide +kernel
theorem dX12_readBookLine_112 : decode cX12_readBookLine 112 = .ok (.iload_n 2, 1) := by decide +kernel
theorem dX12_readBookLine_113 : decode cX12_readBookLine 113 = .ok (.ifCond .eq 7, 3) := by decide +kernel
theorem dX12_readBookLine_193 : decode cX12_readBookLine 193 = .ok (.iload_n 2, 1) := by decide +kernel
theorem dX12_readBookLine_194 : decode cX12_readBookLine 194 = .ok (.ifCond .eq 23, 3) := by decide +kernel
theorem dX12_readBookLine_197 : decode cX12_readBookLine 197 = .ok (.aload_n 0, 1) := by decide +kernel
theorem dX12_readBookLine_198 : decode cX12_readBookLine 198 = .ok (.iload_n 3, 1) := by decide +kernel
theorem dX12_readBookLine_199 : decode cX12_readBookLine 199 = .ok (.iconst 1, 1) := by decide +kernel
theorem dX12_readBookLine_200 : decode cX12_readBookLine 200 = .ok (.iadd, 1) := by decide +kernel
theorem dX12_readBookLine_201 : decode cX12_readBookLine 201 = .ok (.aload_n 0, 1) := by decide +kernel
theorem dX12_readBookLine_202 : decode cX12_readBookLine 202 = .ok (.iconst 1, 1) := by decide +kernel
theorem dX12_readBookLine_203 : decode cX12_readBookLine 203 = .ok (.bipush 60, 2) := by decide +kernel
theorem dX12_readBookLine_205 : decode cX12_readBookLine 205 = .ok (.invokevirtual 200, 3) := by decide +kernel
theorem dX12_readBookLine_208 : decode cX12_readBookLine 208 = .ok (.invokevirtual 373, 3) := by decide +kernel
theorem dX12_readBookLine_211 : decode cX12_readBookLine 211 = .ok (.ifCond .eq 25, 3) := by decide +kernel
theorem dX12_readBookLine_236 : decode cX12_readBookLine 236 = .ok (.iconst 0, 1) := by decide +kernel
theorem dX12_readBookLine_237 : decode cX12_readBookLine 237 = .ok (.ireturn, 1) := by decide +kernel
theorem dX12_readBookLine_214 : decode cX12_readBookLine 214 = .ok (.goto 11, 3) := by decide +kernel
theorem dX12_readBookLine_225 : decode cX12_readBookLine 225 = .ok (.aload_n 0, 1) := by decide +kernel
theorem dX12_readBookLine_226 : decode cX12_readBookLine 226 = .ok (.invokevirtual 230, 3) := by decide +kernel
theorem dX12_readBookLine_229 : decode cX12_readBookLine 229 = .ok (.ifCond .eq 7, 3) := by decide +kernel
theorem dX12_readBookLine_232 : decode cX12_readBookLine 232 = .ok (.iconst 1, 1) := by decide +kernel
theorem dX12_readBookLine_233 : decode cX12_readBookLine 233 = .ok (.goto 4, 3) := by decide +kernel
theorem dX12_readBookLine_22 : decode cX12_readBookLine 22 = .ok (.aload_n 0, 1) := by decide +kernel
theorem dX12_readBookLine_23 : decode cX12_readBookLine 23 = .ok (.invokevirtual 175, 3) := by decide +kernel
theorem dX12_readBookLine_26 : decode cX12_readBookLine 26 = .ok (.ifCond .ne 9, 3) := by decide +kernel
theorem dX12_readBookLine_35 : decode cX12_readBookLine 35 = .ok (.aload_n 0, 1) := by decide +kernel
theorem dX12_readBookLine_36 : decode cX12_readBookLine 36 = .ok (.getfield 113, 3) := by decide +kernel
theorem dX12_readBookLine_39 : decode cX12_readBookLine 39 = .ok (.bipush 9, 2) := by decide +kernel
theorem dX12_readBookLine_41 : decode cX12_readBookLine 41 = .ok (.aload_n 0, 1) := by decide +kernel
theorem dX12_readBookLine_42 : decode cX12_readBookLine 42 = .ok (.getfield 98, 3) := by decide +kernel
theorem dX12_readBookLine_45 : decode cX12_readBookLine 45 = .ok (.iconst 1, 1) := by decide +kernel
theorem dX12_readBookLine_46 : decode cX12_readBookLine 46 = .ok (.iaload, 1) := by decide +kernel
theorem dX12_readBookLine_47 : decode cX12_readBookLine 47 = .ok (.aload_n 0, 1) := by decide +kernel
theorem dX12_readBookLine_48 : decode cX12_readBookLine 48 = .ok (.getfield 43, 3) := by decide +kernel
theorem dX12_readBookLine_51 : decode cX12_readBookLine 51 = .ok (.invokestatic 179, 3) := by decide +kernel
theorem dX12_readBookLine_54 : decode cX12_readBookLine 54 = .ok (.iconst (-1), 1) := by decide +kernel
theorem dX12_readBookLine_55 : decode cX12_readBookLine 55 = .ok (.if_icmp .ne 9, 3) := by decide +kernel
theorem dX12_readBookLine_120 : decode cX12_readBookLine 120 = .ok (.aload_n 0, 1) := by decide +kernel
theorem dX12_readBookLine_121 : decode cX12_readBookLine 121 = .ok (.getfield 113, 3) := by decide +kernel
theorem dX12_readBookLine_124 : decode cX12_readBookLine 124 = .ok (.bipush 9, 2) := by decide +kernel
theorem dX12_readBookLine_126 : decode cX12_readBookLine 126 = .ok (.aload_n 0, 1) := by decide +kernel
theorem dX12_readBookLine_127 : decode cX12_readBookLine 127 = .ok (.getfield 98, 3) := by decide +kernel
theorem dX12_readBookLine_130 : decode cX12_readBookLine 130 = .ok (.iconst 1, 1) := by decide +kernel
theorem dX12_readBookLine_131 : decode cX12_readBookLine 131 = .ok (.iaload, 1) := by decide +kernel
theorem dX12_readBookLine_132 : decode cX12_readBookLine 132 = .ok (.aload_n 0, 1) := by decide +kernel
theorem dX12_readBookLine_133 : decode cX12_readBookLine 133 = .ok (.getfield 43, 3) := by decide +kernel
theorem dX12_readBookLine_136 : decode cX12_readBookLine 136 = .ok (.invokestatic 179, 3) := by decide +kernel
theorem dX12_readBookLine_217 : decode cX12_readBookLine 217 = .ok (.aload_n 0, 1) := by decide +kernel
theorem dX12_readBookLine_218 : decode cX12_readBookLine 218 = .ok (.iload_n 3, 1) := by decide +kernel
theorem dX12_readBookLine_219 : decode cX12_readBookLine 219 = .ok (.invokevirtual 379, 3) := by decide +kernel
theorem G1998 : Cond.code ⟨"HookedCityModel", "readDoes", "(I)Z"⟩ prog_14_method_105_code 2 (some .boolean) ∈ GW := gw_i 1998 (by decide +kernel) rfl
theorem G1995 : Cond.methodLink "HookedCityModel" 379 ⟨"HookedCityModel", "readDoes", "(I)Z"⟩ ∈ GW := gw_i 1995 (by decide +kernel) rfl
theorem V_HookedCityModel_379 : VL "HookedCityModel" 379 yX12_readDoes cX12_readDoes 2 (some .boolean) 1 := ⟨G1998, G1995, G131, by decide +kernel, by decide +kernel, by decide +kernel⟩
theorem G1997 : Cond.instanceMethod ⟨"HookedCityModel", "readDoes", "(I)Z"⟩ ∈ GW := gw_i 1997 (by decide +kernel) rfl
theorem G106 : Cond.selects "HookedCityModel" ⟨"HookedCityModel", "readDoes", "(I)Z"⟩ ⟨"HookedCityModel", "readDoes", "(I)Z"⟩ ∈ GW := gw_i 106 (by decide +kernel) rfl
theorem dX12_readBookLine_222 : decode cX12_readBookLine 222 = .ok (.ifCond .eq 14, 3) := by decide +kernel
theorem dX12_readBookLine_58 : decode cX12_readBookLine 58 = .ok (.aload_n 0, 1) := by decide +kernel
theorem dX12_readBookLine_59 : decode cX12_readBookLine 59 = .ok (.iconst 3, 1) := by decide +kernel
theorem dX12_readBookLine_60 : decode cX12_readBookLine 60 = .ok (.invokevirtual 72, 3) := by decide +kernel
theorem dX12_readBookLine_63 : decode cX12_readBookLine 63 = .ok (.ireturn, 1) := by decide +kernel
theorem dX12_readBookLine_29 : decode cX12_readBookLine 29 = .ok (.aload_n 0, 1) := by decide +kernel
theorem dX12_readBookLine_30 : decode cX12_readBookLine 30 = .ok (.iconst 1, 1) := by decide +kernel
theorem dX12_readBookLine_31 : decode cX12_readBookLine 31 = .ok (.invokevirtual 72, 3) := by decide +kernel
theorem dX12_readBookLine_34 : decode cX12_readBookLine 34 = .ok (.ireturn, 1) := by decide +kernel
theorem dX12_goBy_0 : decode cX12_goBy 0 = .ok (.aload_n 0, 1) := by decide +kernel
theorem dX12_goBy_1 : decode cX12_goBy 1 = .ok (.getfield 160, 3) := by decide +kernel
theorem dX12_goBy_4 : decode cX12_goBy 4 = .ok (.iload_n 1, 1) := by decide +kernel
theorem dX12_goBy_5 : decode cX12_goBy 5 = .ok (.iconst 1, 1) := by decide +kernel
theorem dX12_goBy_6 : decode cX12_goBy 6 = .ok (.iadd, 1) := by decide +kernel
theorem dX12_goBy_7 : decode cX12_goBy 7 = .ok (.iaload, 1) := by decide +kernel
theorem dX12_goBy_8 : decode cX12_goBy 8 = .ok (.istore_n 2, 1) := by decide +kernel
theorem dX12_goBy_9 : decode cX12_goBy 9 = .ok (.aload_n 0, 1) := by decide +kernel
theorem dX12_goBy_10 : decode cX12_goBy 10 = .ok (.getfield 160, 3) := by decide +kernel
theorem dX12_goBy_13 : decode cX12_goBy 13 = .ok (.iload_n 1, 1) := by decide +kernel
theorem dX12_goBy_14 : decode cX12_goBy 14 = .ok (.iaload, 1) := by decide +kernel
theorem dX12_goBy_15 : decode cX12_goBy 15 = .ok (.iconst 3, 1) := by decide +kernel
theorem dX12_goBy_16 : decode cX12_goBy 16 = .ok (.if_icmp .ne 29, 3) := by decide +kernel
theorem dX12_goBy_45 : decode cX12_goBy 45 = .ok (.aload_n 0, 1) := by decide +kernel
theorem dX12_goBy_46 : decode cX12_goBy 46 = .ok (.aload_n 0, 1) := by decide +kernel
theorem dX12_goBy_47 : decode cX12_goBy 47 = .ok (.getfield 160, 3) := by decide +kernel
theorem dX12_goBy_50 : decode cX12_goBy 50 = .ok (.iload_n 1, 1) := by decide +kernel
theorem dX12_goBy_51 : decode cX12_goBy 51 = .ok (.iaload, 1) := by decide +kernel
theorem dX12_goBy_52 : decode cX12_goBy 52 = .ok (.iload_n 2, 1) := by decide +kernel
theorem dX12_goBy_53 : decode cX12_goBy 53 = .ok (.aload_n 0, 1) := by decide +kernel
theorem dX12_goBy_54 : decode cX12_goBy 54 = .ok (.getfield 160, 3) := by decide +kernel
theorem dX12_goBy_57 : decode cX12_goBy 57 = .ok (.iload_n 1, 1) := by decide +kernel
theorem dX12_goBy_58 : decode cX12_goBy 58 = .ok (.iconst 2, 1) := by decide +kernel
theorem dX12_goBy_59 : decode cX12_goBy 59 = .ok (.iadd, 1) := by decide +kernel
theorem dX12_goBy_60 : decode cX12_goBy 60 = .ok (.iaload, 1) := by decide +kernel
theorem dX12_goBy_61 : decode cX12_goBy 61 = .ok (.aload_n 0, 1) := by decide +kernel
theorem dX12_goBy_62 : decode cX12_goBy 62 = .ok (.getfield 160, 3) := by decide +kernel
theorem dX12_goBy_65 : decode cX12_goBy 65 = .ok (.iload_n 1, 1) := by decide +kernel
theorem dX12_goBy_66 : decode cX12_goBy 66 = .ok (.iconst 3, 1) := by decide +kernel
theorem dX12_goBy_67 : decode cX12_goBy 67 = .ok (.iadd, 1) := by decide +kernel
theorem dX12_goBy_68 : decode cX12_goBy 68 = .ok (.iaload, 1) := by decide +kernel
theorem dX12_goBy_69 : decode cX12_goBy 69 = .ok (.invokevirtual 280, 3) := by decide +kernel
theorem dX12_goBy_72 : decode cX12_goBy 72 = .ok (.istore_n 3, 1) := by decide +kernel
theorem dX12_goBy_73 : decode cX12_goBy 73 = .ok (.iload_n 3, 1) := by decide +kernel
theorem dX12_goBy_74 : decode cX12_goBy 74 = .ok (.ifCond .eq 15, 3) := by decide +kernel
theorem dX12_goBy_89 : decode cX12_goBy 89 = .ok (.aload_n 0, 1) := by decide +kernel
theorem dX12_goBy_90 : decode cX12_goBy 90 = .ok (.aload_n 0, 1) := by decide +kernel
theorem dX12_goBy_91 : decode cX12_goBy 91 = .ok (.getfield 160, 3) := by decide +kernel
theorem dX12_goBy_94 : decode cX12_goBy 94 = .ok (.iload_n 1, 1) := by decide +kernel
theorem dX12_goBy_95 : decode cX12_goBy 95 = .ok (.iaload, 1) := by decide +kernel
theorem dX12_goBy_96 : decode cX12_goBy 96 = .ok (.iload_n 2, 1) := by decide +kernel
theorem dX12_goBy_97 : decode cX12_goBy 97 = .ok (.aload_n 0, 1) := by decide +kernel
theorem dX12_goBy_98 : decode cX12_goBy 98 = .ok (.getfield 160, 3) := by decide +kernel
theorem dX12_goBy_101 : decode cX12_goBy 101 = .ok (.iload_n 1, 1) := by decide +kernel
theorem dX12_goBy_102 : decode cX12_goBy 102 = .ok (.iconst 2, 1) := by decide +kernel
theorem dX12_goBy_103 : decode cX12_goBy 103 = .ok (.iadd, 1) := by decide +kernel
theorem dX12_goBy_104 : decode cX12_goBy 104 = .ok (.iaload, 1) := by decide +kernel
theorem dX12_goBy_105 : decode cX12_goBy 105 = .ok (.aload_n 0, 1) := by decide +kernel
theorem dX12_goBy_106 : decode cX12_goBy 106 = .ok (.getfield 160, 3) := by decide +kernel
theorem dX12_goBy_109 : decode cX12_goBy 109 = .ok (.iload_n 1, 1) := by decide +kernel
theorem dX12_goBy_110 : decode cX12_goBy 110 = .ok (.iconst 3, 1) := by decide +kernel
theorem dX12_goBy_111 : decode cX12_goBy 111 = .ok (.iadd, 1) := by decide +kernel
theorem dX12_goBy_112 : decode cX12_goBy 112 = .ok (.iaload, 1) := by decide +kernel
theorem dX12_goBy_113 : decode cX12_goBy 113 = .ok (.invokevirtual 287, 3) := by decide +kernel
theorem dX12_goBy_116 : decode cX12_goBy 116 = .ok (.iconst 0, 1) := by decide +kernel
theorem dX12_goBy_117 : decode cX12_goBy 117 = .ok (.ireturn, 1) := by decide +kernel
theorem dX12_goBy_77 : decode cX12_goBy 77 = .ok (.bipush 10, 2) := by decide +kernel
theorem dX12_goBy_79 : decode cX12_goBy 79 = .ok (.aload_n 0, 1) := by decide +kernel
theorem dX12_goBy_80 : decode cX12_goBy 80 = .ok (.getfield 160, 3) := by decide +kernel
theorem dX12_goBy_83 : decode cX12_goBy 83 = .ok (.iload_n 1, 1) := by decide +kernel
theorem dX12_goBy_84 : decode cX12_goBy 84 = .ok (.iaload, 1) := by decide +kernel
theorem dX12_goBy_85 : decode cX12_goBy 85 = .ok (.imul, 1) := by decide +kernel
theorem dX12_goBy_86 : decode cX12_goBy 86 = .ok (.iload_n 3, 1) := by decide +kernel
theorem dX12_goBy_87 : decode cX12_goBy 87 = .ok (.iadd, 1) := by decide +kernel
theorem dX12_goBy_88 : decode cX12_goBy 88 = .ok (.ireturn, 1) := by decide +kernel
theorem dX12_goBy_19 : decode cX12_goBy 19 = .ok (.aload_n 0, 1) := by decide +kernel
theorem dX12_goBy_20 : decode cX12_goBy 20 = .ok (.getfield 98, 3) := by decide +kernel
theorem dX12_goBy_23 : decode cX12_goBy 23 = .ok (.bipush 53, 2) := by decide +kernel
theorem dX12_goBy_25 : decode cX12_goBy 25 = .ok (.iaload, 1) := by decide +kernel
theorem dX12_goBy_26 : decode cX12_goBy 26 = .ok (.iload_n 2, 1) := by decide +kernel
theorem dX12_goBy_27 : decode cX12_goBy 27 = .ok (.iadd, 1) := by decide +kernel
theorem dX12_goBy_28 : decode cX12_goBy 28 = .ok (.sipush 400, 3) := by decide +kernel
theorem dX12_goBy_31 : decode cX12_goBy 31 = .ok (.if_icmp .le 6, 3) := by decide +kernel
theorem dX12_goBy_37 : decode cX12_goBy 37 = .ok (.aload_n 0, 1) := by decide +kernel
theorem dX12_goBy_38 : decode cX12_goBy 38 = .ok (.iload_n 2, 1) := by decide +kernel
theorem dX12_goBy_39 : decode cX12_goBy 39 = .ok (.invokevirtual 304, 3) := by decide +kernel
theorem dX12_goBy_42 : decode cX12_goBy 42 = .ok (.pop, 1) := by decide +kernel
theorem dX12_goBy_43 : decode cX12_goBy 43 = .ok (.iconst 0, 1) := by decide +kernel
theorem dX12_goBy_44 : decode cX12_goBy 44 = .ok (.ireturn, 1) := by decide +kernel
theorem dX12_goBy_34 : decode cX12_goBy 34 = .ok (.bipush 31, 2) := by decide +kernel
theorem dX12_goBy_36 : decode cX12_goBy 36 = .ok (.ireturn, 1) := by decide +kernel
theorem dX12_book_0 : decode cX12_book 0 = .ok (.aload_n 0, 1) := by decide +kernel
theorem dX12_book_1 : decode cX12_book 1 = .ok (.iconst 0, 1) := by decide +kernel
theorem dX12_book_2 : decode cX12_book 2 = .ok (.putfield 1, 3) := by decide +kernel
theorem dX12_book_5 : decode cX12_book 5 = .ok (.iload_n 1, 1) := by decide +kernel
theorem dX12_book_6 : decode cX12_book 6 = .ok (.iconst 0, 1) := by decide +kernel
theorem dX12_book_7 : decode cX12_book 7 = .ok (.iconst 1, 1) := by decide +kernel
theorem dX12_book_8 : decode cX12_book 8 = .ok (.invokestatic 75, 3) := by decide +kernel
theorem dX12_book_11 : decode cX12_book 11 = .ok (.ifCond .ne 7, 3) := by decide +kernel
theorem dX12_book_14 : decode cX12_book 14 = .ok (.sipush (-1000), 3) := by decide +kernel
theorem dX12_book_17 : decode cX12_book 17 = .ok (.ireturn, 1) := by decide +kernel
theorem dX12_book_18 : decode cX12_book 18 = .ok (.aload_n 0, 1) := by decide +kernel
theorem dX12_book_19 : decode cX12_book 19 = .ok (.sipush 400, 3) := by decide +kernel
theorem dX12_book_22 : decode cX12_book 22 = .ok (.invokevirtual 224, 3) := by decide +kernel
theorem dX12_book_25 : decode cX12_book 25 = .ok (.aload_n 0, 1) := by decide +kernel
theorem dX12_book_26 : decode cX12_book 26 = .ok (.iconst 0, 1) := by decide +kernel
theorem dX12_book_27 : decode cX12_book 27 = .ok (.putfield 376, 3) := by decide +kernel
theorem dX12_book_30 : decode cX12_book 30 = .ok (.aload_n 0, 1) := by decide +kernel
theorem dX12_book_31 : decode cX12_book 31 = .ok (.getfield 30, 3) := by decide +kernel
theorem dX12_book_34 : decode cX12_book 34 = .ok (.ifCond .eq 31, 3) := by decide +kernel
theorem dX12_book_65 : decode cX12_book 65 = .ok (.aload_n 0, 1) := by decide +kernel
theorem dX12_book_66 : decode cX12_book 66 = .ok (.invokevirtual 364, 3) := by decide +kernel
theorem dX12_book_69 : decode cX12_book 69 = .ok (.iconst 0, 1) := by decide +kernel
theorem dX12_book_70 : decode cX12_book 70 = .ok (.istore_n 2, 1) := by decide +kernel
theorem dX12_book_71 : decode cX12_book 71 = .ok (.iconst 0, 1) := by decide +kernel
theorem dX12_book_72 : decode cX12_book 72 = .ok (.istore_n 3, 1) := by decide +kernel
theorem dX12_book_73 : decode cX12_book 73 = .ok (.iload_n 2, 1) := by decide +kernel
theorem dX12_book_74 : decode cX12_book 74 = .ok (.aload_n 0, 1) := by decide +kernel
theorem dX12_book_75 : decode cX12_book 75 = .ok (.getfield 376, 3) := by decide +kernel
theorem dX12_book_78 : decode cX12_book 78 = .ok (.if_icmp .ge 25, 3) := by decide +kernel
theorem dX12_book_103 : decode cX12_book 103 = .ok (.aload_n 0, 1) := by decide +kernel
theorem dX12_book_104 : decode cX12_book 104 = .ok (.getfield 163, 3) := by decide +kernel
theorem dX12_book_107 : decode cX12_book 107 = .ok (.iconst 0, 1) := by decide +kernel
theorem dX12_book_108 : decode cX12_book 108 = .ok (.iload_n 3, 1) := by decide +kernel
theorem dX12_book_109 : decode cX12_book 109 = .ok (.iastore, 1) := by decide +kernel
theorem dX12_book_110 : decode cX12_book 110 = .ok (.aload_n 0, 1) := by decide +kernel
theorem dX12_book_111 : decode cX12_book 111 = .ok (.getfield 163, 3) := by decide +kernel
theorem dX12_book_114 : decode cX12_book 114 = .ok (.iconst 1, 1) := by decide +kernel
theorem dX12_book_115 : decode cX12_book 115 = .ok (.iload_n 2, 1) := by decide +kernel
theorem dX12_book_116 : decode cX12_book 116 = .ok (.iastore, 1) := by decide +kernel
theorem dX12_book_117 : decode cX12_book 117 = .ok (.aload_n 0, 1) := by decide +kernel
theorem dX12_book_118 : decode cX12_book 118 = .ok (.getfield 163, 3) := by decide +kernel
theorem dX12_book_121 : decode cX12_book 121 = .ok (.iconst 2, 1) := by decide +kernel
theorem dX12_book_122 : decode cX12_book 122 = .ok (.aload_n 0, 1) := by decide +kernel
theorem dX12_book_123 : decode cX12_book 123 = .ok (.getfield 98, 3) := by decide +kernel
theorem dX12_book_126 : decode cX12_book 126 = .ok (.bipush 53, 2) := by decide +kernel
theorem dX12_book_128 : decode cX12_book 128 = .ok (.iaload, 1) := by decide +kernel
theorem dX12_book_129 : decode cX12_book 129 = .ok (.iastore, 1) := by decide +kernel
theorem dX12_book_130 : decode cX12_book 130 = .ok (.aload_n 0, 1) := by decide +kernel
theorem dX12_book_131 : decode cX12_book 131 = .ok (.getfield 163, 3) := by decide +kernel
theorem dX12_book_134 : decode cX12_book 134 = .ok (.iconst 3, 1) := by decide +kernel
theorem dX12_book_135 : decode cX12_book 135 = .ok (.aload_n 0, 1) := by decide +kernel
theorem dX12_book_136 : decode cX12_book 136 = .ok (.invokevirtual 258, 3) := by decide +kernel
theorem dX12_book_139 : decode cX12_book 139 = .ok (.iastore, 1) := by decide +kernel
theorem dX12_book_140 : decode cX12_book 140 = .ok (.aload_n 0, 1) := by decide +kernel
theorem dX12_book_141 : decode cX12_book 141 = .ok (.iconst 1, 1) := by decide +kernel
theorem dX12_book_142 : decode cX12_book 142 = .ok (.putfield 388, 3) := by decide +kernel
theorem dX12_book_145 : decode cX12_book 145 = .ok (.aload_n 0, 1) := by decide +kernel
theorem dX12_book_146 : decode cX12_book 146 = .ok (.iload_n 1, 1) := by decide +kernel
theorem dX12_book_147 : decode cX12_book 147 = .ok (.iconst 1, 1) := by decide +kernel
theorem dX12_book_148 : decode cX12_book 148 = .ok (.if_icmp .ne 11, 3) := by decide +kernel
theorem dX12_book_159 : decode cX12_book 159 = .ok (.iconst 0, 1) := by decide +kernel
theorem dX12_book_160 : decode cX12_book 160 = .ok (.invokevirtual 391, 3) := by decide +kernel
theorem G2006 : Cond.code ⟨"HookedCityModel", "stay", "(Z)V"⟩ prog_14_method_109_code 4 none ∈ GW := gw_i 2006 (by decide +kernel) rfl
theorem G2003 : Cond.methodLink "HookedCityModel" 391 ⟨"HookedCityModel", "stay", "(Z)V"⟩ ∈ GW := gw_i 2003 (by decide +kernel) rfl
theorem V_HookedCityModel_391 : VL "HookedCityModel" 391 yX12_stay cX12_stay 4 none 1 := ⟨G2006, G2003, G131, by decide +kernel, by decide +kernel, by decide +kernel⟩
theorem G2005 : Cond.instanceMethod ⟨"HookedCityModel", "stay", "(Z)V"⟩ ∈ GW := gw_i 2005 (by decide +kernel) rfl
theorem G108 : Cond.selects "HookedCityModel" ⟨"HookedCityModel", "stay", "(Z)V"⟩ ⟨"HookedCityModel", "stay", "(Z)V"⟩ ∈ GW := gw_i 108 (by decide +kernel) rfl
theorem dX12_book_163 : decode cX12_book 163 = .ok (.iload_n 3, 1) := by decide +kernel
theorem dX12_book_164 : decode cX12_book 164 = .ok (.ifCond .ne 7, 3) := by decide +kernel
theorem dX12_book_171 : decode cX12_book 171 = .ok (.iload_n 2, 1) := by decide +kernel
theorem dX12_book_172 : decode cX12_book 172 = .ok (.ireturn, 1) := by decide +kernel
theorem dX12_book_167 : decode cX12_book 167 = .ok (.iconst (-1), 1) := by decide +kernel
theorem dX12_book_168 : decode cX12_book 168 = .ok (.goto 4, 3) := by decide +kernel
theorem dX12_book_151 : decode cX12_book 151 = .ok (.iload_n 2, 1) := by decide +kernel
theorem dX12_book_152 : decode cX12_book 152 = .ok (.ifCond .le 7, 3) := by decide +kernel
theorem dX12_book_155 : decode cX12_book 155 = .ok (.iconst 1, 1) := by decide +kernel
theorem dX12_book_156 : decode cX12_book 156 = .ok (.goto 4, 3) := by decide +kernel
theorem dX12_book_81 : decode cX12_book 81 = .ok (.iload_n 3, 1) := by decide +kernel
theorem dX12_book_82 : decode cX12_book 82 = .ok (.ifCond .ne 21, 3) := by decide +kernel
theorem dX12_book_85 : decode cX12_book 85 = .ok (.aload_n 0, 1) := by decide +kernel
theorem dX12_book_86 : decode cX12_book 86 = .ok (.iconst 4, 1) := by decide +kernel
theorem dX12_book_87 : decode cX12_book 87 = .ok (.iload_n 2, 1) := by decide +kernel
theorem dX12_book_88 : decode cX12_book 88 = .ok (.imul, 1) := by decide +kernel
theorem dX12_book_89 : decode cX12_book 89 = .ok (.invokevirtual 385, 3) := by decide +kernel
theorem G2002 : Cond.code ⟨"HookedCityModel", "goBy", "(I)I"⟩ prog_14_method_107_code 4 (some .int) ∈ GW := gw_i 2002 (by decide +kernel) rfl
theorem G1999 : Cond.methodLink "HookedCityModel" 385 ⟨"HookedCityModel", "goBy", "(I)I"⟩ ∈ GW := gw_i 1999 (by decide +kernel) rfl
theorem V_HookedCityModel_385 : VL "HookedCityModel" 385 yX12_goBy cX12_goBy 4 (some .int) 1 := ⟨G2002, G1999, G131, by decide +kernel, by decide +kernel, by decide +kernel⟩
theorem G2001 : Cond.instanceMethod ⟨"HookedCityModel", "goBy", "(I)I"⟩ ∈ GW := gw_i 2001 (by decide +kernel) rfl
theorem G107 : Cond.selects "HookedCityModel" ⟨"HookedCityModel", "goBy", "(I)I"⟩ ⟨"HookedCityModel", "goBy", "(I)I"⟩ ∈ GW := gw_i 107 (by decide +kernel) rfl
theorem dX12_book_92 : decode cX12_book 92 = .ok (.istore_n 3, 1) := by decide +kernel
theorem dX12_book_93 : decode cX12_book 93 = .ok (.iload_n 3, 1) := by decide +kernel
theorem dX12_book_94 : decode cX12_book 94 = .ok (.ifCond .ne (-21), 3) := by decide +kernel
theorem dX12_book_97 : decode cX12_book 97 = .ok (.iinc 2 1, 3) := by decide +kernel
theorem dX12_book_100 : decode cX12_book 100 = .ok (.goto (-27), 3) := by decide +kernel
theorem dX12_book_37 : decode cX12_book 37 = .ok (.aload_n 0, 1) := by decide +kernel
theorem dX12_book_38 : decode cX12_book 38 = .ok (.invokevirtual 382, 3) := by decide +kernel
theorem G1986 : Cond.code ⟨"HookedCityModel", "readBookLine", "()Z"⟩ prog_14_method_106_code 4 (some .boolean) ∈ GW := gw_i 1986 (by decide +kernel) rfl
theorem G1983 : Cond.methodLink "HookedCityModel" 382 ⟨"HookedCityModel", "readBookLine", "()Z"⟩ ∈ GW := gw_i 1983 (by decide +kernel) rfl
theorem V_HookedCityModel_382 : VL "HookedCityModel" 382 yX12_readBookLine cX12_readBookLine 4 (some .boolean) 0 := ⟨G1986, G1983, G131, by decide +kernel, by decide +kernel, by decide +kernel⟩
theorem G1985 : Cond.instanceMethod ⟨"HookedCityModel", "readBookLine", "()Z"⟩ ∈ GW := gw_i 1985 (by decide +kernel) rfl
theorem G103 : Cond.selects "HookedCityModel" ⟨"HookedCityModel", "readBookLine", "()Z"⟩ ⟨"HookedCityModel", "readBookLine", "()Z"⟩ ∈ GW := gw_i 103 (by decide +kernel) rfl
theorem dX12_book_41 : decode cX12_book 41 = .ok (.ifCond .ne 11, 3) := by decide +kernel
theorem dX12_book_52 : decode cX12_book 52 = .ok (.aload_n 0, 1) := by decide +kernel
theorem dX12_book_53 : decode cX12_book 53 = .ok (.dup, 1) := by decide +kernel
theorem dX12_book_54 : decode cX12_book 54 = .ok (.getfield 376, 3) := by decide +kernel
theorem dX12_book_57 : decode cX12_book 57 = .ok (.iconst 1, 1) := by decide +kernel
theorem dX12_book_58 : decode cX12_book 58 = .ok (.iadd, 1) := by decide +kernel
theorem dX12_book_59 : decode cX12_book 59 = .ok (.putfield 376, 3) := by decide +kernel
theorem dX12_book_62 : decode cX12_book 62 = .ok (.goto (-32), 3) := by decide +kernel
theorem dX12_book_44 : decode cX12_book 44 = .ok (.bipush (-2), 2) := by decide +kernel
theorem dX12_book_46 : decode cX12_book 46 = .ok (.aload_n 0, 1) := by decide +kernel
theorem dX12_book_47 : decode cX12_book 47 = .ok (.getfield 69, 3) := by decide +kernel
theorem dX12_book_50 : decode cX12_book 50 = .ok (.isub, 1) := by decide +kernel
theorem dX12_book_51 : decode cX12_book 51 = .ok (.ireturn, 1) := by decide +kernel
set_option maxRecDepth 100000 in
set_option maxHeartbeats 4000000 in
theorem c103_X12_stay (l : Launch) (D : va_G) (T : Nat → ClassId) (sz : Nat) (a0 : Nat) (x0 : Int) (r0 : Int32) (a1 : Nat) (x1 : Int) (x2 : Int) (r1 : Int32) (x3 : Int) (r2 : Int32) (x4 : Int) (x5 : Int) (r3 : Int32) (r4 : Int32) (r5 : Int32) (y0 : Int64) (x6 : Int) (a2 : Nat) (a3 : Nat) (a4 : Nat) (a5 : Nat) (a6 : Nat) (a7 : Nat) (a8 : Nat) (a9 : Nat) (a10 : Nat) (a11 : Nat) (x7 : Int) (a12 : Nat) (a13 : Nat) (a14 : Nat) (a15 : Nat) (x8 : Int) (r6 : Int32) (r7 : Int32) (a16 : Nat) (r8 : Int32) (r9 : Int32) (a17 : Nat) (a18 : Nat) (x9 : Int) (a19 : Nat) (x10 : Int) (r10 : Int32) (a20 : Nat) (a21 : Nat) (x11 : Int) (r11 : Int32) (a22 : Nat) (x12 : Int) (x13 : Int) (x14 : Int) (x15 : Int) (f0 : Int → Int) (f1 : Int → Int) (f2 : Int → Int) (x0_a : (-2147483648) ≤ x0) (x0_b : x0 ≤ 2147483647) (x1_a : 0 ≤ x1) (x1_b : x1 ≤ 940) (x2_a : 0 ≤ x2) (x2_b : x2 ≤ 940) (x3_a : 0 ≤ x3) (x3_b : x3 ≤ 940) (x4_a : 0 ≤ x4) (x4_b : x4 ≤ 4) (x5_a : (-2147483648) ≤ x5) (x5_b : x5 ≤ 2147483647) (x6_a : (-2147483648) ≤ x6) (x6_b : x6 ≤ 2147483647) (x7_a : 0 ≤ x7) (x7_b : x7 ≤ 8) (x8_a : 0 ≤ x8) (x8_b : x8 ≤ 9) (x9_a : 0 ≤ x9) (x9_b : x9 ≤ 9) (x10_a : 0 ≤ x10) (x10_b : x10 ≤ 64) (x11_a : 0 ≤ x11) (x11_b : x11 ≤ 40) (x12_a : 0 ≤ x12) (x12_b : x12 ≤ 40) (x13_a : 0 ≤ x13) (x13_b : x13 ≤ 20) (x14_a : 0 ≤ x14) (x14_b : x14 ≤ 8) (x15_a : 0 ≤ x15) (x15_b : x15 ≤ 39) (f0_h : nowI f0) (f1_h : FL f1) (f2_h : FL f2) (pp_s : snI f1 x7) (pp_a : soI f2 0) : Met l yX12_stay (Cond.code yX12_stay cX12_stay 4 none :: GW) (Rm 1 0 0) (cPre [.ref a0, .int (iI x0)] D T [(a0, .inr (11, [.int r0, .ref a1, .int (iI x1), .int (iI x2), .int r1, .int (iI x3), .int r2, .int (iI x4), .int (iI x5), .int r3, .int r4, .int r5, .long y0, .int (iI x6), .ref a2, .ref a3, .ref a4, .ref a5, .ref a6, .ref a7, .ref a8, .ref a9, .ref a10, .ref a11, .int (iI x7), .ref a12, .ref a13, .ref a14, .ref a15, .int (iI x8), .int r6, .int r7, .ref a16, .int r8, .int r9, .ref a17, .ref a18, .int (iI x9), .ref a19, .int (iI x10), .int r10, .ref a20, .ref a21, .int (iI x11), .int r11, .ref a22, .int (iI x12), .int (iI x13), .int (iI x14), .int (iI x15)])), (a2, .inl (T 0, 329, .inl (cI f0))), (a5, .inl (T 0, 272, .inl (cI f1))), (a6, .inl (T 0, 34, .inl (cI f2)))] sz) (qV D [(a0, .inr (11, [.int r0, .ref a1, .int (iI x1), .int (iI x2), .int r1, .int (iI x3), .int r2, .int (iI x4), .int (iI x5), .int r3, .int r4, .int r5, .long y0, .int (iI x6), .ref a2, .ref a3, .ref a4, .ref a5, .ref a6, .ref a7, .ref a8, .ref a9, .ref a10, .ref a11, .int (iI x7), .ref a12, .ref a13, .ref a14, .ref a15, .int (iI x8), .int r6, .int r7, .ref a16, .int r8, .int r9, .ref a17, .ref a18, .int (iI x9), .ref a19, .int (iI x10), .int r10, .ref a20, .ref a21, .int (iI x11), .int r11, .ref a22, .int (iI x12), .int (iI x13), .int (iI x14), .int (iI x15)])), (a2, .inl (T 0, 329, .inl (cI f0))), (a5, .inl (T 0, 272, .inl (cI f1))), (a6, .inl (T 0, 34, .inl (cI f2)))] sz (fun (u : Int × (Int → Int) × (Int → Int) × (Int → Int)) => 0 ≤ u.1 ∧ u.1 ≤ 8 ∧ nowI u.2.1 ∧ FL u.2.2.1 ∧ FL u.2.2.2 ∧ (snI u.2.2.1 u.1)) (fun u => [(a0, .inr (11, [.int r0, .ref a1, .int (iI x1), .int (iI x2), .int r1, .int (iI x3), .int r2, .int (iI x4), .int (iI x5), .int r3, .int r4, .int r5, .long y0, .int (iI x6), .ref a2, .ref a3, .ref a4, .ref a5, .ref a6, .ref a7, .ref a8, .ref a9, .ref a10, .ref a11, .int (iI u.1), .ref a12, .ref a13, .ref a14, .ref a15, .int (iI x8), .int r6, .int r7, .ref a16, .int r8, .int r9, .ref a17, .ref a18, .int (iI x9), .ref a19, .int (iI x10), .int r10, .ref a20, .ref a21, .int (iI x11), .int r11, .ref a22, .int (iI x12), .int (iI x13), .int (iI x14), .int (iI x15)])), (a2, .inl (T 0, 329, .inl (cI u.2.1))), (a5, .inl (T 0, 272, .inl (cI u.2.2.1))), (a6, .inl (T 0, 34, .inl (cI u.2.2.2)))])) 0 0 (va_A [(a0, .inr (11, [.int r0, .ref a1, .int (iI x1), .int (iI x2), .int r1, .int (iI x3), .int r2, .int (iI x4), .int (iI x5), .int r3, .int r4, .int r5, .long y0, .int (iI x6), .ref a2, .ref a3, .ref a4, .ref a5, .ref a6, .ref a7, .ref a8, .ref a9, .ref a10, .ref a11, .int (iI x7), .ref a12, .ref a13, .ref a14, .ref a15, .int (iI x8), .int r6, .int r7, .ref a16, .int r8, .int r9, .ref a17, .ref a18, .int (iI x9), .ref a19, .int (iI x10), .int r10, .ref a20, .ref a21, .int (iI x11), .int r11, .ref a22, .int (iI x12), .int (iI x13), .int (iI x14), .int (iI x15)])), (a2, .inl (T 0, 329, .inl (cI f0))), (a5, .inl (T 0, 272, .inl (cI f1))), (a6, .inl (T 0, 34, .inl (cI f2)))] sz) := by
  refine e_V (by decide) (Nat.le_of_ble_eq_true rfl) ?_
  intro p e s m args below meth c A Q ls M hin w ret hl
  have hx := M.1.1
  have hb := M.1.2.1
  have hl : lv_has ls 4 [(0, .ref a0), (1, .int (iI x0))] := hl
  refine lv_iconst (v := iI 0) hx hb dX12_stay_0 (by decide +kernel) ?_
  refine lv_istore_n (lv' := [(2, .int (iI 0)), (0, .ref a0), (1, .int (iI x0))]) hx hb dX12_stay_1 rfl hl (by decide) rfl (fun ls hl => ?_)
  have w := WD.eq (ws' := [(a0, .inr (11, [.int r0, .ref a1, .int (iI x1), .int (iI x2), .int r1, .int (iI x3), .int r2, .int (iI x4), .int (iI x5), .int r3, .int r4, .int r5, .long y0, .int (iI x6), .ref a2, .ref a3, .ref a4, .ref a5, .ref a6, .ref a7, .ref a8, .ref a9, .ref a10, .ref a11, .int (iI x7), .ref a12, .ref a13, .ref a14, .ref a15, .int (iI x8), .int r6, .int r7, .ref a16, .int r8, .int r9, .ref a17, .ref a18, .int (iI x9), .ref a19, .int (iI x10), .int r10, .ref a20, .ref a21, .int (iI x11), .int r11, .ref a22, .int (iI x12), .int (iI x13), .int (iI x14), .int (iI x15)])), (a2, .inl (T 0, 329, .inl (cI (cpz f2 f0 0 53 0)))), (a5, .inl (T 0, 272, .inl (cI f1))), (a6, .inl (T 0, 34, .inl (cI (cpz f0 f2 53 0 0))))]) (by rw [cpz_0 (c := f2) (d := f0) (sp := 0) (dp := 53) (n := 0) (by decide), cpz_0 (c := f0) (d := f2) (sp := 53) (dp := 0) (n := 0) (by decide)]) w
  have loop1 : ∀ (k1 : Nat) (z1 : Int) (H : Heap) (locs : List Loc) (ls : Array Slot), 0 ≤ z1 → z1 ≤ 34 → ((34 - z1) : Int).toNat < k1 → WD D A s.heap [(a0, .inr (11, [.int r0, .ref a1, .int (iI x1), .int (iI x2), .int r1, .int (iI x3), .int r2, .int (iI x4), .int (iI x5), .int r3, .int r4, .int r5, .long y0, .int (iI x6), .ref a2, .ref a3, .ref a4, .ref a5, .ref a6, .ref a7, .ref a8, .ref a9, .ref a10, .ref a11, .int (iI x7), .ref a12, .ref a13, .ref a14, .ref a15, .int (iI x8), .int r6, .int r7, .ref a16, .int r8, .int r9, .ref a17, .ref a18, .int (iI x9), .ref a19, .int (iI x10), .int r10, .ref a20, .ref a21, .int (iI x11), .int r11, .ref a22, .int (iI x12), .int (iI x13), .int (iI x14), .int (iI x15)])), (a2, .inl (T 0, 329, .inl (cI (cpz f2 f0 0 53 z1)))), (a5, .inl (T 0, 272, .inl (cI f1))), (a6, .inl (T 0, 34, .inl (cI (cpz f0 f2 53 0 z1))))] H locs → lv_has ls 4 [(2, .int (iI z1)), (0, .ref a0), (1, .int (iI x0))] → W p l e (Rm 1 0 0) s m args below meth c H locs 0 0 Q (F0 m 2 ls []) := by
    intro k1
    induction k1 with
    | zero => intro z1 H locs ls z1_a z1_b hm; exact absurd hm (Nat.not_lt_zero _)
    | succ k1 ih1 =>
      intro z1 H locs ls z1_a z1_b hm1 w hl
      refine lv_iload_n hx hb dX12_stay_2 rfl (lv_at hl 0 rfl) ?_
      refine lv_bipush (v := iI 34) hx hb dX12_stay_3 (by decide +kernel) ?_
      refine lv_icmp_ge (tgt := 46) hx hb dX12_stay_5 (by decide) (fun c_2 => ?_) (fun c_2 => ?_)
      · replace c_2 := (iI_le (by decide) (by decide) (Int.le_trans (by decide) z1_a) (Int.le_trans z1_b (by decide))).mp c_2
        obtain rfl : z1 = 34 := by omega
        refine lv_iload_n hx hb dX12_stay_46 rfl (lv_at hl 2 rfl) ?_
        refine lv_if_ne (tgt := 51) hx hb dX12_stay_47 (by decide) (fun c_3 => ?_) (fun c_3 => ?_)
        · replace c_3 : ¬ x0 = 0 := fun h => c_3 ((iz_eq (Int.le_trans (by decide) x0_a) (Int.le_trans x0_b (by decide))).mpr h)
          refine lv_aload_n hx hb dX12_stay_51 rfl (lv_at hl 1 rfl) ?_
          refine k_V (ce := 0) (sl := 0) (rest := []) (wr := [(a6, .inl (T 0, 34, .inl (cI (cpz f0 f2 53 0 34))))]) (r_V (f := 0) [0, 1, 2] M w V_HookedCityModel_284 G1804 G82 (c53_X12_snap l D T _ a0 r0 a1 x1 x2 r1 x3 r2 x4 x5 r3 r4 r5 y0 x6 a2 a3 a4 a5 a6 a7 a8 a9 a10 a11 x7 a12 a13 a14 a15 x8 r6 r7 a16 r8 r9 a17 a18 x9 a19 x10 r10 a20 a21 x11 r11 a22 x12 x13 x14 x15 (cpz f2 f0 0 53 34) f1 x1_a x1_b x2_a x2_b x3_a x3_b x4_a x4_b x5_a x5_b x6_a x6_b x7_a x7_b x8_a x8_b x9_a x9_b x10_a x10_b x11_a x11_b x12_a x12_b x13_a x13_b x14_a x14_b x15_a x15_b (now_cpu (n := 0) f0_h pp_a f2_h (by omega)) f1_h pp_s) 0 clX12 rfl rfl (by decide) rfl hl.1 rfl (Nat.le_of_ble_eq_true rfl) dX12_stay_52 (by decide) (by decide) (by decide) (by decide)) w [0, 1, 2] [3] rfl rfl (by decide) (by decide) rfl rfl (fun u H locs hp w => ?_)
          obtain ⟨z4, ff5⟩ := u
          have z4_a : 0 ≤ z4 := hp.1
          have z4_b : z4 ≤ 8 := hp.2.1
          have ff5_h : FL ff5 := hp.2.2.1
          have pq6 : snI ff5 z4 := hp.2.2.2
          have w : WD D A s.heap [(a6, .inl (T 0, 34, .inl (cI (cpz f0 f2 53 0 34)))), (a0, .inr (11, [.int r0, .ref a1, .int (iI x1), .int (iI x2), .int r1, .int (iI x3), .int r2, .int (iI x4), .int (iI x5), .int r3, .int r4, .int r5, .long y0, .int (iI x6), .ref a2, .ref a3, .ref a4, .ref a5, .ref a6, .ref a7, .ref a8, .ref a9, .ref a10, .ref a11, .int (iI z4), .ref a12, .ref a13, .ref a14, .ref a15, .int (iI x8), .int r6, .int r7, .ref a16, .int r8, .int r9, .ref a17, .ref a18, .int (iI x9), .ref a19, .int (iI x10), .int r10, .ref a20, .ref a21, .int (iI x11), .int r11, .ref a22, .int (iI x12), .int (iI x13), .int (iI x14), .int (iI x15)])), (a2, .inl (T 0, 329, .inl (cI (cpz f2 f0 0 53 34)))), (a5, .inl (T 0, 272, .inl (cI ff5)))] H locs := w
          refine lv_aload_n hx hb dX12_stay_55 rfl (lv_at hl 1 rfl) ?_
          refine k_V (ce := 0) (sl := 0) (rest := []) (wr := [(a5, .inl (T 0, 272, .inl (cI ff5)))]) (r_V (f := 0) [1, 2, 0] M w V_HookedCityModel_367 G1977 G102 (c91_X12_takeBack l D T _ a0 r0 a1 x1 x2 r1 x3 r2 x4 x5 r3 r4 r5 y0 x6 a2 a3 a4 a5 a6 a7 a8 a9 a10 a11 z4 a12 a13 a14 a15 x8 r6 r7 a16 r8 r9 a17 a18 x9 a19 x10 r10 a20 a21 x11 r11 a22 x12 x13 x14 x15 (cpz f2 f0 0 53 34) (cpz f0 f2 53 0 34) x1_a x1_b x2_a x2_b x3_a x3_b x4_a x4_b x5_a x5_b x6_a x6_b z4_a z4_b x8_a x8_b x9_a x9_b x10_a x10_b x11_a x11_b x12_a x12_b x13_a x13_b x14_a x14_b x15_a x15_b (now_cpu (n := 0) f0_h pp_a f2_h (by omega)) (FL_cp f0_h.1 f2_h) (so_cp (now_so f0_h))) 1 clX12 rfl rfl (by decide) rfl hl.1 rfl (Nat.le_of_ble_eq_true rfl) dX12_stay_56 (by decide) (by decide) (by decide) (by decide)) w [1, 2, 0] [3] rfl rfl (by decide) (by decide) rfl rfl (fun ff7 H locs hp w => ?_)
          have ff7_h : nowI ff7 := hp
          have w : WD D A s.heap [(a5, .inl (T 0, 272, .inl (cI ff5))), (a0, .inr (11, [.int r0, .ref a1, .int (iI x1), .int (iI x2), .int r1, .int (iI x3), .int r2, .int (iI x4), .int (iI x5), .int r3, .int r4, .int r5, .long y0, .int (iI x6), .ref a2, .ref a3, .ref a4, .ref a5, .ref a6, .ref a7, .ref a8, .ref a9, .ref a10, .ref a11, .int (iI z4), .ref a12, .ref a13, .ref a14, .ref a15, .int (iI x8), .int r6, .int r7, .ref a16, .int r8, .int r9, .ref a17, .ref a18, .int (iI x9), .ref a19, .int (iI x10), .int r10, .ref a20, .ref a21, .int (iI x11), .int r11, .ref a22, .int (iI x12), .int (iI x13), .int (iI x14), .int (iI x15)])), (a2, .inl (T 0, 329, .inl (cI ff7))), (a6, .inl (T 0, 34, .inl (cI (cpz f0 f2 53 0 34))))] H locs := w
          exact ret (z4, ff7, ff5, (cpz f0 f2 53 0 34)) _ _ _ _ _ [1, 2, 0, 3] dX12_stay_59 ⟨z4_a, z4_b, ff7_h, ff5_h, (FL_cp f0_h.1 f2_h), (show snI ff5 z4 from pq6)⟩ w (by decide) rfl
        · replace c_3 := (iz_eq (Int.le_trans (by decide) x0_a) (Int.le_trans x0_b (by decide))).mp c_3
          exact ret (x7, (cpz f2 f0 0 53 34), f1, (cpz f0 f2 53 0 34)) _ _ _ _ _ [0, 1, 2, 3] dX12_stay_50 ⟨x7_a, x7_b, (now_cpu (n := 0) f0_h pp_a f2_h (by omega)), f1_h, (FL_cp f0_h.1 f2_h), (show snI f1 x7 from pp_s)⟩ w (by decide) rfl
      · replace c_2 : z1 < 34 := Int.not_le.mp (fun h => c_2 ((iI_le (by decide) (by decide) (Int.le_trans (by decide) z1_a) (Int.le_trans z1_b (by decide))).mpr h))
        refine lv_aload_n hx hb dX12_stay_8 rfl (lv_at hl 1 rfl) ?_
        refine r_get (v := .ref a2) M w 0 14 clX12 rfl (by decide) G1477 rfl rfl dX12_stay_9 ?_
        refine lv_bipush (v := iI 53) hx hb dX12_stay_12 (by decide +kernel) ?_
        refine lv_iload_n hx hb dX12_stay_14 rfl (lv_at hl 0 rfl) ?_
        refine r_iadd (v := iI (53 + z1)) M (iI_add _ _) dX12_stay_15 ?_
        refine r_iald (v := iI ((cpz f2 f0 0 53 z1) (53 + z1))) M w 1 rfl (iI_in (by omega) (by omega) (by decide)) (cI_at (by omega) (by omega)) dX12_stay_16 ?_
        have hh8 : (-2147483648) ≤ ((cpz f2 f0 0 53 z1) (53 + z1)) ∧ ((cpz f2 f0 0 53 z1) (53 + z1)) ≤ 2147483647 := (FL_cp f2_h f0_h.1) (53 + z1)
        refine lv_istore_n (lv' := [(3, .int (iI ((cpz f2 f0 0 53 z1) (53 + z1)))), (2, .int (iI z1)), (0, .ref a0), (1, .int (iI x0))]) hx hb dX12_stay_17 rfl hl (by decide) rfl (fun ls hl => ?_)
        refine lv_aload_n hx hb dX12_stay_18 rfl (lv_at hl 2 rfl) ?_
        refine r_get (v := .ref a2) M w 0 14 clX12 rfl (by decide) G1477 rfl rfl dX12_stay_19 ?_
        refine lv_bipush (v := iI 53) hx hb dX12_stay_22 (by decide +kernel) ?_
        refine lv_iload_n hx hb dX12_stay_24 rfl (lv_at hl 1 rfl) ?_
        refine r_iadd (v := iI (53 + z1)) M (iI_add _ _) dX12_stay_25 ?_
        refine lv_aload_n hx hb dX12_stay_26 rfl (lv_at hl 2 rfl) ?_
        refine r_get (v := .ref a6) M w 0 18 clX12 rfl (by decide) G1481 rfl rfl dX12_stay_27 ?_
        refine lv_iload_n hx hb dX12_stay_30 rfl (lv_at hl 1 rfl) ?_
        refine r_iald (v := iI ((cpz f0 f2 53 0 z1) z1)) M w 3 rfl (iI_in (by omega) (by omega) (by decide)) (cI_at (by omega) (by omega)) dX12_stay_31 ?_
        have hh9 : (-2147483648) ≤ ((cpz f0 f2 53 0 z1) z1) ∧ ((cpz f0 f2 53 0 z1) z1) ≤ 2147483647 := (FL_cp f0_h.1 f2_h) z1
        refine r_iast (ws' := [(a0, .inr (11, [.int r0, .ref a1, .int (iI x1), .int (iI x2), .int r1, .int (iI x3), .int r2, .int (iI x4), .int (iI x5), .int r3, .int r4, .int r5, .long y0, .int (iI x6), .ref a2, .ref a3, .ref a4, .ref a5, .ref a6, .ref a7, .ref a8, .ref a9, .ref a10, .ref a11, .int (iI x7), .ref a12, .ref a13, .ref a14, .ref a15, .int (iI x8), .int r6, .int r7, .ref a16, .int r8, .int r9, .ref a17, .ref a18, .int (iI x9), .ref a19, .int (iI x10), .int r10, .ref a20, .ref a21, .int (iI x11), .int r11, .ref a22, .int (iI x12), .int (iI x13), .int (iI x14), .int (iI x15)])), (a2, .inl (T 0, 329, .inl (cI (upz (cpz f2 f0 0 53 z1) (53 + z1) ((cpz f0 f2 53 0 z1) z1))))), (a5, .inl (T 0, 272, .inl (cI f1))), (a6, .inl (T 0, 34, .inl (cI (cpz f0 f2 53 0 z1))))]) M w 1 rfl (iI_in (by omega) (by omega) (by decide)) (by rw [cI_up (by omega) (by omega)]; rfl) dX12_stay_32 (fun H locs w => ?_)
        refine lv_aload_n hx hb dX12_stay_33 rfl (lv_at hl 2 rfl) ?_
        refine r_get (v := .ref a6) M w 0 18 clX12 rfl (by decide) G1481 rfl rfl dX12_stay_34 ?_
        refine lv_iload_n hx hb dX12_stay_37 rfl (lv_at hl 1 rfl) ?_
        refine lv_iload_n hx hb dX12_stay_38 rfl (lv_at hl 0 rfl) ?_
        refine r_iast (ws' := [(a0, .inr (11, [.int r0, .ref a1, .int (iI x1), .int (iI x2), .int r1, .int (iI x3), .int r2, .int (iI x4), .int (iI x5), .int r3, .int r4, .int r5, .long y0, .int (iI x6), .ref a2, .ref a3, .ref a4, .ref a5, .ref a6, .ref a7, .ref a8, .ref a9, .ref a10, .ref a11, .int (iI x7), .ref a12, .ref a13, .ref a14, .ref a15, .int (iI x8), .int r6, .int r7, .ref a16, .int r8, .int r9, .ref a17, .ref a18, .int (iI x9), .ref a19, .int (iI x10), .int r10, .ref a20, .ref a21, .int (iI x11), .int r11, .ref a22, .int (iI x12), .int (iI x13), .int (iI x14), .int (iI x15)])), (a2, .inl (T 0, 329, .inl (cI (upz (cpz f2 f0 0 53 z1) (53 + z1) ((cpz f0 f2 53 0 z1) z1))))), (a5, .inl (T 0, 272, .inl (cI f1))), (a6, .inl (T 0, 34, .inl (cI (upz (cpz f0 f2 53 0 z1) z1 ((cpz f2 f0 0 53 z1) (53 + z1))))))]) M w 3 rfl (iI_in (by omega) (by omega) (by decide)) (by rw [cI_up (by omega) (by omega)]; rfl) dX12_stay_39 (fun H locs w => ?_)
        refine lv_iinc (v := iI (z1 + 1)) (lv' := [(2, .int (iI (z1 + 1))), (3, .int (iI ((cpz f2 f0 0 53 z1) (53 + z1)))), (0, .ref a0), (1, .int (iI x0))]) hx hb dX12_stay_40 hl (k := 1) rfl (ii_inc (by decide +kernel)) (by decide) rfl (fun ls hl => ?_)
        refine lv_goto (tgt := 2) hx hb dX12_stay_43 (by decide) ?_
        have w := WD.eq (ws' := [(a0, .inr (11, [.int r0, .ref a1, .int (iI x1), .int (iI x2), .int r1, .int (iI x3), .int r2, .int (iI x4), .int (iI x5), .int r3, .int r4, .int r5, .long y0, .int (iI x6), .ref a2, .ref a3, .ref a4, .ref a5, .ref a6, .ref a7, .ref a8, .ref a9, .ref a10, .ref a11, .int (iI x7), .ref a12, .ref a13, .ref a14, .ref a15, .int (iI x8), .int r6, .int r7, .ref a16, .int r8, .int r9, .ref a17, .ref a18, .int (iI x9), .ref a19, .int (iI x10), .int r10, .ref a20, .ref a21, .int (iI x11), .int r11, .ref a22, .int (iI x12), .int (iI x13), .int (iI x14), .int (iI x15)])), (a2, .inl (T 0, 329, .inl (cI (cpz f2 f0 0 53 (z1 + 1))))), (a5, .inl (T 0, 272, .inl (cI f1))), (a6, .inl (T 0, 34, .inl (cI (cpz f0 f2 53 0 (z1 + 1)))))]) (by rw [← cpz_t (c := f2) (d := f0) (sp := 0) (dp := 53) (k := z1) (k' := (z1 + 1)) (i := (53 + z1)) (x := ((cpz f0 f2 53 0 z1) z1)) (by omega) (by omega) (by omega) ((cpz_o (by omega)).trans (congrArg f2 (by omega))), ← cpz_t (c := f0) (d := f2) (sp := 53) (dp := 0) (k := z1) (k' := (z1 + 1)) (i := z1) (x := ((cpz f2 f0 0 53 z1) (53 + z1))) (by omega) (by omega) (by omega) ((cpz_o (by omega)).trans (congrArg f0 (by omega)))]) w
        exact ih1 (z1 + 1) _ _ _ (by omega) (by omega) (by omega) w (lv_sub hl [0, 2, 3] rfl)
  exact loop1 ((34 : Int).toNat + 1) 0 _ _ _ (by decide) (by decide) (Nat.lt_succ_self _) w (lv_sub hl [0, 1, 2] rfl)
set_option maxRecDepth 100000 in
set_option maxHeartbeats 4000000 in
theorem c104_X12_readPersonName (l : Launch) (D : va_G) (T : Nat → ClassId) (sz : Nat) (a0 : Nat) (r0 : Int32) (a1 : Nat) (x0 : Int) (x1 : Int) (r1 : Int32) (x2 : Int) (r2 : Int32) (x3 : Int) (x4 : Int) (r3 : Int32) (r4 : Int32) (r5 : Int32) (y0 : Int64) (x5 : Int) (a2 : Nat) (a3 : Nat) (a4 : Nat) (a5 : Nat) (a6 : Nat) (a7 : Nat) (a8 : Nat) (a9 : Nat) (a10 : Nat) (a11 : Nat) (x6 : Int) (a12 : Nat) (a13 : Nat) (a14 : Nat) (a15 : Nat) (x7 : Int) (r6 : Int32) (r7 : Int32) (a16 : Nat) (r8 : Int32) (r9 : Int32) (a17 : Nat) (a18 : Nat) (x8 : Int) (a19 : Nat) (x9 : Int) (r10 : Int32) (a20 : Nat) (a21 : Nat) (x10 : Int) (r11 : Int32) (a22 : Nat) (x11 : Int) (x12 : Int) (x13 : Int) (x14 : Int) (f0 : Nat → Int32) (f1 : Int → Int) (h0 : Nat → Int64) (x0_a : 0 ≤ x0) (x0_b : x0 ≤ 940) (x1_a : 0 ≤ x1) (x1_b : x1 ≤ 940) (x2_a : 0 ≤ x2) (x2_b : x2 ≤ 940) (x3_a : 0 ≤ x3) (x3_b : x3 ≤ 4) (x4_a : (-2147483648) ≤ x4) (x4_b : x4 ≤ 2147483647) (x5_a : (-2147483648) ≤ x5) (x5_b : x5 ≤ 2147483647) (x6_a : 0 ≤ x6) (x6_b : x6 ≤ 8) (x7_a : 0 ≤ x7) (x7_b : x7 ≤ 9) (x8_a : 0 ≤ x8) (x8_b : x8 ≤ 9) (x9_a : 0 ≤ x9) (x9_b : x9 ≤ 64) (x10_a : 0 ≤ x10) (x10_b : x10 ≤ 40) (x11_a : 0 ≤ x11) (x11_b : x11 ≤ 40) (x12_a : 0 ≤ x12) (x12_b : x12 ≤ 20) (x13_a : 0 ≤ x13) (x13_b : x13 ≤ 8) (x14_a : 0 ≤ x14) (x14_b : x14 ≤ 39) (f1_h : nowI f1) : Met l yX12_readPersonName (Cond.code yX12_readPersonName cX12_readPersonName 1 (some .boolean) :: GW) (Rm 3 0 0) (cPre [.ref a0] D T [(a0, .inr (11, [.int r0, .ref a1, .int (iI x0), .int (iI x1), .int r1, .int (iI x2), .int r2, .int (iI x3), .int (iI x4), .int r3, .int r4, .int r5, .long y0, .int (iI x5), .ref a2, .ref a3, .ref a4, .ref a5, .ref a6, .ref a7, .ref a8, .ref a9, .ref a10, .ref a11, .int (iI x6), .ref a12, .ref a13, .ref a14, .ref a15, .int (iI x7), .int r6, .int r7, .ref a16, .int r8, .int r9, .ref a17, .ref a18, .int (iI x8), .ref a19, .int (iI x9), .int r10, .ref a20, .ref a21, .int (iI x10), .int r11, .ref a22, .int (iI x11), .int (iI x12), .int (iI x13), .int (iI x14)])), (a1, .inl (T 0, 940, .inl f0)), (a2, .inl (T 0, 329, .inl (cI f1))), (a7, .inl (T 1, 12, .inr (.inl h0)))] sz) (qI D [(a0, .inr (11, [.int r0, .ref a1, .int (iI x0), .int (iI x1), .int r1, .int (iI x2), .int r2, .int (iI x3), .int (iI x4), .int r3, .int r4, .int r5, .long y0, .int (iI x5), .ref a2, .ref a3, .ref a4, .ref a5, .ref a6, .ref a7, .ref a8, .ref a9, .ref a10, .ref a11, .int (iI x6), .ref a12, .ref a13, .ref a14, .ref a15, .int (iI x7), .int r6, .int r7, .ref a16, .int r8, .int r9, .ref a17, .ref a18, .int (iI x8), .ref a19, .int (iI x9), .int r10, .ref a20, .ref a21, .int (iI x10), .int r11, .ref a22, .int (iI x11), .int (iI x12), .int (iI x13), .int (iI x14)])), (a1, .inl (T 0, 940, .inl f0)), (a2, .inl (T 0, 329, .inl (cI f1))), (a7, .inl (T 1, 12, .inr (.inl h0)))] sz (fun (v : Int32) (u : Int × Int × Int32 × Int × Int × Int32 × Int32 × Int32 × Int64 × Int) => iI u.1 = v ∧ 0 ≤ u.1 ∧ u.1 ≤ 1 ∧ 0 ≤ u.2.1 ∧ u.2.1 ≤ 940 ∧ 0 ≤ u.2.2.2.1 ∧ u.2.2.2.1 ≤ 4 ∧ (-2147483648) ≤ u.2.2.2.2.1 ∧ u.2.2.2.2.1 ≤ 2147483647 ∧ (-2147483648) ≤ u.2.2.2.2.2.2.2.2.2 ∧ u.2.2.2.2.2.2.2.2.2 ≤ 2147483647 ∧ 0 ≤ (u.2.1 - x2) ∧ 0 ≤ ((((u.2.1 - x2) - u.2.2.2.1) + 4) - u.1) ∧ 0 ≤ ((u.2.2.2.2.2.2.2.2.2 + 4294967296) - (u.1 * 4294967296)) ∧ 0 ≤ (((8 - u.2.2.2.2.2.2.2.2.2) + 4294967296) - (u.1 * 4294967296))) (fun u => [(a0, .inr (11, [.int r0, .ref a1, .int (iI x0), .int (iI x1), .int r1, .int (iI u.2.1), .int u.2.2.1, .int (iI u.2.2.2.1), .int (iI u.2.2.2.2.1), .int u.2.2.2.2.2.1, .int u.2.2.2.2.2.2.1, .int u.2.2.2.2.2.2.2.1, .long u.2.2.2.2.2.2.2.2.1, .int (iI u.2.2.2.2.2.2.2.2.2), .ref a2, .ref a3, .ref a4, .ref a5, .ref a6, .ref a7, .ref a8, .ref a9, .ref a10, .ref a11, .int (iI x6), .ref a12, .ref a13, .ref a14, .ref a15, .int (iI x7), .int r6, .int r7, .ref a16, .int r8, .int r9, .ref a17, .ref a18, .int (iI x8), .ref a19, .int (iI x9), .int r10, .ref a20, .ref a21, .int (iI x10), .int r11, .ref a22, .int (iI x11), .int (iI x12), .int (iI x13), .int (iI x14)])), (a1, .inl (T 0, 940, .inl f0)), (a2, .inl (T 0, 329, .inl (cI f1))), (a7, .inl (T 1, 12, .inr (.inl h0)))])) 0 0 (va_A [(a0, .inr (11, [.int r0, .ref a1, .int (iI x0), .int (iI x1), .int r1, .int (iI x2), .int r2, .int (iI x3), .int (iI x4), .int r3, .int r4, .int r5, .long y0, .int (iI x5), .ref a2, .ref a3, .ref a4, .ref a5, .ref a6, .ref a7, .ref a8, .ref a9, .ref a10, .ref a11, .int (iI x6), .ref a12, .ref a13, .ref a14, .ref a15, .int (iI x7), .int r6, .int r7, .ref a16, .int r8, .int r9, .ref a17, .ref a18, .int (iI x8), .ref a19, .int (iI x9), .int r10, .ref a20, .ref a21, .int (iI x10), .int r11, .ref a22, .int (iI x11), .int (iI x12), .int (iI x13), .int (iI x14)])), (a1, .inl (T 0, 940, .inl f0)), (a2, .inl (T 0, 329, .inl (cI f1))), (a7, .inl (T 1, 12, .inr (.inl h0)))] sz) := by
  refine e_Z (by decide) (Nat.le_of_ble_eq_true rfl) ?_
  intro p e s m args below meth c A Q ls M hin w ret hl
  have hx := M.1.1
  have hb := M.1.2.1
  have hl : lv_has ls 1 [(0, .ref a0)] := hl
  refine lv_aload_n hx hb dX12_readPersonName_0 rfl (lv_at hl 0 rfl) ?_
  refine k_I (ce := 0) (sl := 0) (rest := []) (wr := [(a1, .inl (T 0, 940, .inl f0)), (a2, .inl (T 0, 329, .inl (cI f1))), (a7, .inl (T 1, 12, .inr (.inl h0)))]) (r_V (f := 2) [0] M w V_HookedCityModel_175 G1675 G57 (c17_X12_isName l D T _ a0 r0 a1 x0 x1 r1 x2 r2 x3 x4 r3 r4 r5 y0 x5 a2 a3 a4 a5 a6 a7 a8 a9 a10 a11 x6 a12 a13 a14 a15 x7 r6 r7 a16 r8 r9 a17 a18 x8 a19 x9 r10 a20 a21 x10 r11 a22 x11 x12 x13 x14 x0_a x0_b x1_a x1_b x2_a x2_b x3_a x3_b x4_a x4_b x5_a x5_b x6_a x6_b x7_a x7_b x8_a x8_b x9_a x9_b x10_a x10_b x11_a x11_b x12_a x12_b x13_a x13_b x14_a x14_b) 0 clX12 rfl rfl (by decide) rfl hl.1 rfl (Nat.le_of_ble_eq_true rfl) dX12_readPersonName_1 (by decide) (by decide) (by decide) (by decide)) w [0] [1, 2, 3] rfl rfl (by decide) (by decide) rfl rfl (fun v z1 H locs hp w => ?_)
  have hv : iI z1 = v := hp.1
  subst hv
  have z1_a : 0 ≤ z1 := hp.2.1
  have z1_b : z1 ≤ 1 := hp.2.2
  have w : WD D A s.heap [(a1, .inl (T 0, 940, .inl f0)), (a2, .inl (T 0, 329, .inl (cI f1))), (a7, .inl (T 1, 12, .inr (.inl h0))), (a0, .inr (11, [.int r0, .ref a1, .int (iI x0), .int (iI x1), .int r1, .int (iI x2), .int r2, .int (iI x3), .int (iI x4), .int r3, .int r4, .int r5, .long y0, .int (iI x5), .ref a2, .ref a3, .ref a4, .ref a5, .ref a6, .ref a7, .ref a8, .ref a9, .ref a10, .ref a11, .int (iI x6), .ref a12, .ref a13, .ref a14, .ref a15, .int (iI x7), .int r6, .int r7, .ref a16, .int r8, .int r9, .ref a17, .ref a18, .int (iI x8), .ref a19, .int (iI x9), .int r10, .ref a20, .ref a21, .int (iI x10), .int r11, .ref a22, .int (iI x11), .int (iI x12), .int (iI x13), .int (iI x14)]))] H locs := w
  refine lv_if_ne (tgt := 13) hx hb dX12_readPersonName_4 (by decide) (fun c_2 => ?_) (fun c_2 => ?_)
  · replace c_2 : ¬ z1 = 0 := fun h => c_2 ((iz_eq (Int.le_trans (by decide) z1_a) (Int.le_trans z1_b (by decide))).mpr h)
    refine lv_aload_n hx hb dX12_readPersonName_13 rfl (lv_at hl 0 rfl) ?_
    refine lv_aload_n hx hb dX12_readPersonName_14 rfl (lv_at hl 0 rfl) ?_
    refine r_get (v := .ref a7) M w 3 19 clX12 rfl (by decide) G1482 rfl rfl dX12_readPersonName_15 ?_
    refine lv_iconst (v := iI 0) hx hb dX12_readPersonName_18 (by decide +kernel) ?_
    refine lv_aload_n hx hb dX12_readPersonName_19 rfl (lv_at hl 0 rfl) ?_
    refine r_get (v := .ref a2) M w 3 14 clX12 rfl (by decide) G1477 rfl rfl dX12_readPersonName_20 ?_
    refine lv_iconst (v := iI 0) hx hb dX12_readPersonName_23 (by decide +kernel) ?_
    refine r_iald (v := iI (f1 0)) M w 1 rfl (iI_in (by decide) (by decide) (by decide)) (cI_at (by omega) (by omega)) dX12_readPersonName_24 ?_
    have hh3 : (-2147483648) ≤ (f1 0) ∧ (f1 0) ≤ 2147483647 := f1_h.1 0
    have hh4 : 0 ≤ (f1 0) ∧ (f1 0) ≤ 9 := (f1_h.2.1 0).1 (by omega)
    refine lv_aload_n hx hb dX12_readPersonName_25 rfl (lv_at hl 0 rfl) ?_
    refine r_get (v := .long y0) M w 3 12 clX12 rfl (by decide) G1475 rfl rfl dX12_readPersonName_26 ?_
    refine k_I (ce := 0) (sl := 0) (rest := [.ref a0]) (wr := [(a1, .inl (T 0, 940, .inl f0)), (a2, .inl (T 0, 329, .inl (cI f1))), (a0, .inr (11, [.int r0, .ref a1, .int (iI x0), .int (iI x1), .int r1, .int (iI x2), .int r2, .int (iI x3), .int (iI x4), .int r3, .int r4, .int r5, .long y0, .int (iI x5), .ref a2, .ref a3, .ref a4, .ref a5, .ref a6, .ref a7, .ref a8, .ref a9, .ref a10, .ref a11, .int (iI x6), .ref a12, .ref a13, .ref a14, .ref a15, .int (iI x7), .int r6, .int r7, .ref a16, .int r8, .int r9, .ref a17, .ref a18, .int (iI x8), .ref a19, .int (iI x9), .int r10, .ref a20, .ref a21, .int (iI x10), .int r11, .ref a22, .int (iI x11), .int (iI x12), .int (iI x13), .int (iI x14)]))]) (r_S (f := 0) [2] M w V_HookedCityModel_179 G1678 (c24_X12_findIn l D T _ a7 (f1 0) y0 h0 (by omega) (by omega)) rfl (by decide) rfl hl.1 rfl (Nat.le_of_ble_eq_true rfl) dX12_readPersonName_29 (by decide) (by decide) (by decide) (by decide)) w [2] [0, 1, 3] rfl rfl (by decide) (by decide) rfl rfl (fun v z5 H locs hp w => ?_)
    have hv : iI z5 = v := hp.1
    subst hv
    have z5_a : (-1) ≤ z5 := hp.2.1
    have z5_b : z5 ≤ 8 := hp.2.2.1
    have ee6 : 0 ≤ (((f1 0) - z5) - 1) := hp.2.2.2.1
    have pq7 : z5 = FI h0 0 (f1 0) y0 := hp.2.2.2.2
    have w : WD D A s.heap [(a1, .inl (T 0, 940, .inl f0)), (a2, .inl (T 0, 329, .inl (cI f1))), (a0, .inr (11, [.int r0, .ref a1, .int (iI x0), .int (iI x1), .int r1, .int (iI x2), .int r2, .int (iI x3), .int (iI x4), .int r3, .int r4, .int r5, .long y0, .int (iI x5), .ref a2, .ref a3, .ref a4, .ref a5, .ref a6, .ref a7, .ref a8, .ref a9, .ref a10, .ref a11, .int (iI x6), .ref a12, .ref a13, .ref a14, .ref a15, .int (iI x7), .int r6, .int r7, .ref a16, .int r8, .int r9, .ref a17, .ref a18, .int (iI x8), .ref a19, .int (iI x9), .int r10, .ref a20, .ref a21, .int (iI x10), .int r11, .ref a22, .int (iI x11), .int (iI x12), .int (iI x13), .int (iI x14)])), (a7, .inl (T 1, 12, .inr (.inl h0)))] H locs := w
    refine r_put (ws' := [(a1, .inl (T 0, 940, .inl f0)), (a2, .inl (T 0, 329, .inl (cI f1))), (a0, .inr (11, [.int r0, .ref a1, .int (iI x0), .int (iI x1), .int r1, .int (iI x2), .int r2, .int (iI x3), .int (iI x4), .int r3, .int r4, .int r5, .long y0, .int (iI z5), .ref a2, .ref a3, .ref a4, .ref a5, .ref a6, .ref a7, .ref a8, .ref a9, .ref a10, .ref a11, .int (iI x6), .ref a12, .ref a13, .ref a14, .ref a15, .int (iI x7), .int r6, .int r7, .ref a16, .int r8, .int r9, .ref a17, .ref a18, .int (iI x8), .ref a19, .int (iI x9), .int r10, .ref a20, .ref a21, .int (iI x10), .int r11, .ref a22, .int (iI x11), .int (iI x12), .int (iI x13), .int (iI x14)])), (a7, .inl (T 1, 12, .inr (.inl h0)))]) M w 2 13 clX12 rfl (by decide) G1476 rfl rfl rfl rfl (Nat.le_of_ble_eq_true rfl) rfl dX12_readPersonName_32 (fun H locs w => ?_)
    refine lv_aload_n hx hb dX12_readPersonName_35 rfl (lv_at hl 0 rfl) ?_
    refine r_get (v := .int (iI z5)) M w 2 13 clX12 rfl (by decide) G1476 rfl rfl dX12_readPersonName_36 ?_
    refine lv_iconst (v := iI (-1)) hx hb dX12_readPersonName_39 (by decide +kernel) ?_
    refine lv_icmp_ne (tgt := 49) hx hb dX12_readPersonName_40 (by decide) (fun c_8 => ?_) (fun c_8 => ?_)
    · replace c_8 : ¬ z5 = (-1) := fun h => c_8 ((iI_eq (Int.le_trans (by decide) z5_a) (Int.le_trans z5_b (by decide)) (by decide) (by decide)).mpr h)
      refine lv_aload_n hx hb dX12_readPersonName_49 rfl (lv_at hl 0 rfl) ?_
      refine k_V (ce := 0) (sl := 0) (rest := []) (wr := [(a2, .inl (T 0, 329, .inl (cI f1))), (a7, .inl (T 1, 12, .inr (.inl h0)))]) (r_V (f := 1) [2, 0] M w V_HookedCityModel_82 G1629 G49 (c12_X12_go l D T _ a0 r0 a1 x0 x1 r1 x2 r2 x3 x4 r3 r4 r5 y0 z5 a2 a3 a4 a5 a6 a7 a8 a9 a10 a11 x6 a12 a13 a14 a15 x7 r6 r7 a16 r8 r9 a17 a18 x8 a19 x9 r10 a20 a21 x10 r11 a22 x11 x12 x13 x14 f0 x0_a x0_b x1_a x1_b x2_a x2_b x3_a x3_b x4_a x4_b (by omega) (by omega) x6_a x6_b x7_a x7_b x8_a x8_b x9_a x9_b x10_a x10_b x11_a x11_b x12_a x12_b x13_a x13_b x14_a x14_b) 2 clX12 rfl rfl (by decide) rfl hl.1 rfl (Nat.le_of_ble_eq_true rfl) dX12_readPersonName_50 (by decide) (by decide) (by decide) (by decide)) w [2, 0] [1, 3] rfl rfl (by decide) (by decide) rfl rfl (fun u H locs hp w => ?_)
      obtain ⟨z9, fr10, z11, z12, fr13, fy14⟩ := u
      have z9_a : 0 ≤ z9 := hp.1
      have z9_b : z9 ≤ 940 := hp.2.1
      have z11_a : 0 ≤ z11 := hp.2.2.1
      have z11_b : z11 ≤ 4 := hp.2.2.2.1
      have z12_a : (-2147483648) ≤ z12 := hp.2.2.2.2.1
      have z12_b : z12 ≤ 2147483647 := hp.2.2.2.2.2.1
      have ee15 : 0 ≤ (z9 - x2) := hp.2.2.2.2.2.2.1
      have ee16 : 0 ≤ (((z9 - x2) - z11) + 3) := hp.2.2.2.2.2.2.2
      have w : WD D A s.heap [(a2, .inl (T 0, 329, .inl (cI f1))), (a7, .inl (T 1, 12, .inr (.inl h0))), (a0, .inr (11, [.int r0, .ref a1, .int (iI x0), .int (iI x1), .int r1, .int (iI z9), .int fr10, .int (iI z11), .int (iI z12), .int fr13, .int r4, .int r5, .long fy14, .int (iI z5), .ref a2, .ref a3, .ref a4, .ref a5, .ref a6, .ref a7, .ref a8, .ref a9, .ref a10, .ref a11, .int (iI x6), .ref a12, .ref a13, .ref a14, .ref a15, .int (iI x7), .int r6, .int r7, .ref a16, .int r8, .int r9, .ref a17, .ref a18, .int (iI x8), .ref a19, .int (iI x9), .int r10, .ref a20, .ref a21, .int (iI x10), .int r11, .ref a22, .int (iI x11), .int (iI x12), .int (iI x13), .int (iI x14)])), (a1, .inl (T 0, 940, .inl f0))] H locs := w
      refine lv_iconst (v := iI 1) hx hb dX12_readPersonName_53 (by decide +kernel) ?_
      exact ret _ (1, z9, fr10, z11, z12, fr13, r4, r5, fy14, z5) _ _ _ _ _ [2, 3, 0, 1] dX12_readPersonName_54 (by decide +kernel) ⟨rfl, (show (0 : Int) ≤ 1 from by decide), (show (1 : Int) ≤ 1 from by decide), z9_a, z9_b, z11_a, z11_b, z12_a, z12_b, (show (-2147483648) ≤ z5 from by omega), (show z5 ≤ 2147483647 from by omega), (show 0 ≤ (z9 - x2) from by omega), (show 0 ≤ ((((z9 - x2) - z11) + 4) - 1) from by omega), (show 0 ≤ ((z5 + 4294967296) - (1 * 4294967296)) from by omega), (show 0 ≤ (((8 - z5) + 4294967296) - (1 * 4294967296)) from by omega)⟩ w (by decide) rfl
    · replace c_8 := (iI_eq (Int.le_trans (by decide) z5_a) (Int.le_trans z5_b (by decide)) (by decide) (by decide)).mp c_8
      refine lv_aload_n hx hb dX12_readPersonName_43 rfl (lv_at hl 0 rfl) ?_
      refine lv_iconst (v := iI 3) hx hb dX12_readPersonName_44 (by decide +kernel) ?_
      refine k_I (ce := 0) (sl := 0) (rest := []) (wr := [(a1, .inl (T 0, 940, .inl f0)), (a2, .inl (T 0, 329, .inl (cI f1))), (a7, .inl (T 1, 12, .inr (.inl h0)))]) (r_V (f := 0) [2] M w V_HookedCityModel_72 G1667 G55 (c18_X12_bad l D T _ a0 3 r0 a1 x0 x1 r1 x2 r2 x3 x4 r3 r4 r5 y0 z5 a2 a3 a4 a5 a6 a7 a8 a9 a10 a11 x6 a12 a13 a14 a15 x7 r6 r7 a16 r8 r9 a17 a18 x8 a19 x9 r10 a20 a21 x10 r11 a22 x11 x12 x13 x14 (by decide) (by decide) x0_a x0_b x1_a x1_b x2_a x2_b x3_a x3_b x4_a x4_b (by omega) (by omega) x6_a x6_b x7_a x7_b x8_a x8_b x9_a x9_b x10_a x10_b x11_a x11_b x12_a x12_b x13_a x13_b x14_a x14_b) 2 clX12 rfl rfl (by decide) rfl hl.1 rfl (Nat.le_of_ble_eq_true rfl) dX12_readPersonName_45 (by decide) (by decide) (by decide) (by decide)) w [2] [0, 1, 3] rfl rfl (by decide) (by decide) rfl rfl (fun v u H locs hp w => ?_)
      obtain ⟨z17, fr18, fr19⟩ := u
      have hv : iI z17 = v := hp.1
      subst hv
      have z17_a : 0 ≤ z17 := hp.2.1
      have z17_b : z17 ≤ 1 := hp.2.2.1
      have w : WD D A s.heap [(a1, .inl (T 0, 940, .inl f0)), (a2, .inl (T 0, 329, .inl (cI f1))), (a7, .inl (T 1, 12, .inr (.inl h0))), (a0, .inr (11, [.int r0, .ref a1, .int (iI x0), .int (iI x1), .int r1, .int (iI x2), .int r2, .int (iI x3), .int (iI x4), .int r3, .int fr18, .int fr19, .long y0, .int (iI z5), .ref a2, .ref a3, .ref a4, .ref a5, .ref a6, .ref a7, .ref a8, .ref a9, .ref a10, .ref a11, .int (iI x6), .ref a12, .ref a13, .ref a14, .ref a15, .int (iI x7), .int r6, .int r7, .ref a16, .int r8, .int r9, .ref a17, .ref a18, .int (iI x8), .ref a19, .int (iI x9), .int r10, .ref a20, .ref a21, .int (iI x10), .int r11, .ref a22, .int (iI x11), .int (iI x12), .int (iI x13), .int (iI x14)]))] H locs := w
      rcases hp.2.2.2 with hr
      · subst hr
        exact ret _ (0, x2, r2, x3, x4, r3, fr18, fr19, y0, z5) _ _ _ _ _ [3, 0, 1, 2] dX12_readPersonName_48 (by decide +kernel) ⟨rfl, (show (0 : Int) ≤ 0 from by decide), (show (0 : Int) ≤ 1 from by decide), x2_a, x2_b, x3_a, x3_b, x4_a, x4_b, (show (-2147483648) ≤ z5 from by omega), (show z5 ≤ 2147483647 from by omega), (show 0 ≤ (x2 - x2) from by omega), (show 0 ≤ ((((x2 - x2) - x3) + 4) - 0) from by omega), (show 0 ≤ ((z5 + 4294967296) - (0 * 4294967296)) from by omega), (show 0 ≤ (((8 - z5) + 4294967296) - (0 * 4294967296)) from by omega)⟩ w (by decide) rfl
  · replace c_2 := (iz_eq (Int.le_trans (by decide) z1_a) (Int.le_trans z1_b (by decide))).mp c_2
    refine lv_aload_n hx hb dX12_readPersonName_7 rfl (lv_at hl 0 rfl) ?_
    refine lv_iconst (v := iI 1) hx hb dX12_readPersonName_8 (by decide +kernel) ?_
    refine k_I (ce := 0) (sl := 0) (rest := []) (wr := [(a1, .inl (T 0, 940, .inl f0)), (a2, .inl (T 0, 329, .inl (cI f1))), (a7, .inl (T 1, 12, .inr (.inl h0)))]) (r_V (f := 0) [3] M w V_HookedCityModel_72 G1667 G55 (c18_X12_bad l D T _ a0 1 r0 a1 x0 x1 r1 x2 r2 x3 x4 r3 r4 r5 y0 x5 a2 a3 a4 a5 a6 a7 a8 a9 a10 a11 x6 a12 a13 a14 a15 x7 r6 r7 a16 r8 r9 a17 a18 x8 a19 x9 r10 a20 a21 x10 r11 a22 x11 x12 x13 x14 (by decide) (by decide) x0_a x0_b x1_a x1_b x2_a x2_b x3_a x3_b x4_a x4_b x5_a x5_b x6_a x6_b x7_a x7_b x8_a x8_b x9_a x9_b x10_a x10_b x11_a x11_b x12_a x12_b x13_a x13_b x14_a x14_b) 3 clX12 rfl rfl (by decide) rfl hl.1 rfl (Nat.le_of_ble_eq_true rfl) dX12_readPersonName_9 (by decide) (by decide) (by decide) (by decide)) w [3] [0, 1, 2] rfl rfl (by decide) (by decide) rfl rfl (fun v u H locs hp w => ?_)
    obtain ⟨z20, fr21, fr22⟩ := u
    have hv : iI z20 = v := hp.1
    subst hv
    have z20_a : 0 ≤ z20 := hp.2.1
    have z20_b : z20 ≤ 1 := hp.2.2.1
    have w : WD D A s.heap [(a1, .inl (T 0, 940, .inl f0)), (a2, .inl (T 0, 329, .inl (cI f1))), (a7, .inl (T 1, 12, .inr (.inl h0))), (a0, .inr (11, [.int r0, .ref a1, .int (iI x0), .int (iI x1), .int r1, .int (iI x2), .int r2, .int (iI x3), .int (iI x4), .int r3, .int fr21, .int fr22, .long y0, .int (iI x5), .ref a2, .ref a3, .ref a4, .ref a5, .ref a6, .ref a7, .ref a8, .ref a9, .ref a10, .ref a11, .int (iI x6), .ref a12, .ref a13, .ref a14, .ref a15, .int (iI x7), .int r6, .int r7, .ref a16, .int r8, .int r9, .ref a17, .ref a18, .int (iI x8), .ref a19, .int (iI x9), .int r10, .ref a20, .ref a21, .int (iI x10), .int r11, .ref a22, .int (iI x11), .int (iI x12), .int (iI x13), .int (iI x14)]))] H locs := w
    rcases hp.2.2.2 with hr
    · subst hr
      exact ret _ (0, x2, r2, x3, x4, r3, fr21, fr22, y0, x5) _ _ _ _ _ [3, 0, 1, 2] dX12_readPersonName_12 (by decide +kernel) ⟨rfl, (show (0 : Int) ≤ 0 from by decide), (show (0 : Int) ≤ 1 from by decide), x2_a, x2_b, x3_a, x3_b, x4_a, x4_b, x5_a, x5_b, (show 0 ≤ (x2 - x2) from by omega), (show 0 ≤ ((((x2 - x2) - x3) + 4) - 0) from by omega), (show 0 ≤ ((x5 + 4294967296) - (0 * 4294967296)) from by omega), (show 0 ≤ (((8 - x5) + 4294967296) - (0 * 4294967296)) from by omega)⟩ w (by decide) rfl
set_option maxRecDepth 100000 in
set_option maxHeartbeats 4000000 in
theorem c105_X12_keep (l : Launch) (D : va_G) (T : Nat → ClassId) (sz : Nat) (a0 : Nat) (x0 : Int) (x1 : Int) (r0 : Int32) (a1 : Nat) (x2 : Int) (x3 : Int) (r1 : Int32) (x4 : Int) (r2 : Int32) (x5 : Int) (x6 : Int) (r3 : Int32) (r4 : Int32) (r5 : Int32) (y0 : Int64) (x7 : Int) (a2 : Nat) (a3 : Nat) (a4 : Nat) (a5 : Nat) (a6 : Nat) (a7 : Nat) (a8 : Nat) (a9 : Nat) (a10 : Nat) (a11 : Nat) (x8 : Int) (a12 : Nat) (a13 : Nat) (a14 : Nat) (a15 : Nat) (x9 : Int) (r6 : Int32) (r7 : Int32) (a16 : Nat) (r8 : Int32) (r9 : Int32) (a17 : Nat) (a18 : Nat) (x10 : Int) (a19 : Nat) (x11 : Int) (r10 : Int32) (a20 : Nat) (a21 : Nat) (x12 : Int) (r11 : Int32) (a22 : Nat) (x13 : Int) (x14 : Int) (x15 : Int) (x16 : Int) (f0 : Int → Int) (x0_a : 0 ≤ x0) (x0_b : x0 ≤ 159) (x1_a : 0 ≤ x1) (x1_b : x1 ≤ 1) (x2_a : 0 ≤ x2) (x2_b : x2 ≤ 940) (x3_a : 0 ≤ x3) (x3_b : x3 ≤ 940) (x4_a : 0 ≤ x4) (x4_b : x4 ≤ 940) (x5_a : 0 ≤ x5) (x5_b : x5 ≤ 4) (x6_a : (-2147483648) ≤ x6) (x6_b : x6 ≤ 2147483647) (x7_a : (-2147483648) ≤ x7) (x7_b : x7 ≤ 2147483647) (x8_a : 0 ≤ x8) (x8_b : x8 ≤ 8) (x9_a : 0 ≤ x9) (x9_b : x9 ≤ 9) (x10_a : 0 ≤ x10) (x10_b : x10 ≤ 9) (x11_a : 0 ≤ x11) (x11_b : x11 ≤ 64) (x12_a : 0 ≤ x12) (x12_b : x12 ≤ 40) (x13_a : 0 ≤ x13) (x13_b : x13 ≤ 40) (x14_a : 0 ≤ x14) (x14_b : x14 ≤ 20) (x15_a : 0 ≤ x15) (x15_b : x15 ≤ 8) (x16_a : 0 ≤ x16) (x16_b : x16 ≤ 39) (f0_h : lnI f0) (pp_v : x1 = 1 → lnI (upz f0 x0 x7)) : Met l yX12_keep (Cond.code yX12_keep cX12_keep 3 (some .boolean) :: GW) (Rm 0 0 0) (cPre [.ref a0, .int (iI x0), .int (iI x1)] D T [(a0, .inr (11, [.int r0, .ref a1, .int (iI x2), .int (iI x3), .int r1, .int (iI x4), .int r2, .int (iI x5), .int (iI x6), .int r3, .int r4, .int r5, .long y0, .int (iI x7), .ref a2, .ref a3, .ref a4, .ref a5, .ref a6, .ref a7, .ref a8, .ref a9, .ref a10, .ref a11, .int (iI x8), .ref a12, .ref a13, .ref a14, .ref a15, .int (iI x9), .int r6, .int r7, .ref a16, .int r8, .int r9, .ref a17, .ref a18, .int (iI x10), .ref a19, .int (iI x11), .int r10, .ref a20, .ref a21, .int (iI x12), .int r11, .ref a22, .int (iI x13), .int (iI x14), .int (iI x15), .int (iI x16)])), (a20, .inl (T 0, 160, .inl (cI f0)))] sz) (qI D [(a0, .inr (11, [.int r0, .ref a1, .int (iI x2), .int (iI x3), .int r1, .int (iI x4), .int r2, .int (iI x5), .int (iI x6), .int r3, .int r4, .int r5, .long y0, .int (iI x7), .ref a2, .ref a3, .ref a4, .ref a5, .ref a6, .ref a7, .ref a8, .ref a9, .ref a10, .ref a11, .int (iI x8), .ref a12, .ref a13, .ref a14, .ref a15, .int (iI x9), .int r6, .int r7, .ref a16, .int r8, .int r9, .ref a17, .ref a18, .int (iI x10), .ref a19, .int (iI x11), .int r10, .ref a20, .ref a21, .int (iI x12), .int r11, .ref a22, .int (iI x13), .int (iI x14), .int (iI x15), .int (iI x16)])), (a20, .inl (T 0, 160, .inl (cI f0)))] sz (fun (v : Int32) (u : Int × (Int → Int)) => iI u.1 = v ∧ 0 ≤ u.1 ∧ u.1 ≤ 1 ∧ lnI u.2 ∧ 0 ≤ (x1 - u.1) ∧ 0 ≤ (u.1 - x1)) (fun u => [(a0, .inr (11, [.int r0, .ref a1, .int (iI x2), .int (iI x3), .int r1, .int (iI x4), .int r2, .int (iI x5), .int (iI x6), .int r3, .int r4, .int r5, .long y0, .int (iI x7), .ref a2, .ref a3, .ref a4, .ref a5, .ref a6, .ref a7, .ref a8, .ref a9, .ref a10, .ref a11, .int (iI x8), .ref a12, .ref a13, .ref a14, .ref a15, .int (iI x9), .int r6, .int r7, .ref a16, .int r8, .int r9, .ref a17, .ref a18, .int (iI x10), .ref a19, .int (iI x11), .int r10, .ref a20, .ref a21, .int (iI x12), .int r11, .ref a22, .int (iI x13), .int (iI x14), .int (iI x15), .int (iI x16)])), (a20, .inl (T 0, 160, .inl (cI u.2)))])) 0 0 (va_A [(a0, .inr (11, [.int r0, .ref a1, .int (iI x2), .int (iI x3), .int r1, .int (iI x4), .int r2, .int (iI x5), .int (iI x6), .int r3, .int r4, .int r5, .long y0, .int (iI x7), .ref a2, .ref a3, .ref a4, .ref a5, .ref a6, .ref a7, .ref a8, .ref a9, .ref a10, .ref a11, .int (iI x8), .ref a12, .ref a13, .ref a14, .ref a15, .int (iI x9), .int r6, .int r7, .ref a16, .int r8, .int r9, .ref a17, .ref a18, .int (iI x10), .ref a19, .int (iI x11), .int r10, .ref a20, .ref a21, .int (iI x12), .int r11, .ref a22, .int (iI x13), .int (iI x14), .int (iI x15), .int (iI x16)])), (a20, .inl (T 0, 160, .inl (cI f0)))] sz) := by
  refine e_Z (by decide) (Nat.le_of_ble_eq_true rfl) ?_
  intro p e s m args below meth c A Q ls M hin w ret hl
  have hx := M.1.1
  have hb := M.1.2.1
  have hl : lv_has ls 3 [(0, .ref a0), (1, .int (iI x0)), (2, .int (iI x1))] := hl
  refine lv_iload_n hx hb dX12_keep_0 rfl (lv_at hl 2 rfl) ?_
  refine lv_if_eq (tgt := 14) hx hb dX12_keep_1 (by decide) (fun c_1 => ?_) (fun c_1 => ?_)
  · replace c_1 := (iz_eq (Int.le_trans (by decide) x1_a) (Int.le_trans x1_b (by decide))).mp c_1
    refine lv_iload_n hx hb dX12_keep_14 rfl (lv_at hl 2 rfl) ?_
    exact ret _ (x1, f0) _ _ _ _ _ [0, 1] dX12_keep_15 (nb_n (by omega) (by omega)) ⟨rfl, x1_a, x1_b, f0_h, (show 0 ≤ (x1 - x1) from by omega), (show 0 ≤ (x1 - x1) from by omega)⟩ w (by decide) rfl
  · replace c_1 : ¬ x1 = 0 := fun h => c_1 ((iz_eq (Int.le_trans (by decide) x1_a) (Int.le_trans x1_b (by decide))).mpr h)
    refine lv_aload_n hx hb dX12_keep_4 rfl (lv_at hl 0 rfl) ?_
    refine r_get (v := .ref a20) M w 0 41 clX12 rfl (by decide) G1504 rfl rfl dX12_keep_5 ?_
    refine lv_iload_n hx hb dX12_keep_8 rfl (lv_at hl 1 rfl) ?_
    refine lv_aload_n hx hb dX12_keep_9 rfl (lv_at hl 0 rfl) ?_
    refine r_get (v := .int (iI x7)) M w 0 13 clX12 rfl (by decide) G1476 rfl rfl dX12_keep_10 ?_
    refine r_iast (ws' := [(a0, .inr (11, [.int r0, .ref a1, .int (iI x2), .int (iI x3), .int r1, .int (iI x4), .int r2, .int (iI x5), .int (iI x6), .int r3, .int r4, .int r5, .long y0, .int (iI x7), .ref a2, .ref a3, .ref a4, .ref a5, .ref a6, .ref a7, .ref a8, .ref a9, .ref a10, .ref a11, .int (iI x8), .ref a12, .ref a13, .ref a14, .ref a15, .int (iI x9), .int r6, .int r7, .ref a16, .int r8, .int r9, .ref a17, .ref a18, .int (iI x10), .ref a19, .int (iI x11), .int r10, .ref a20, .ref a21, .int (iI x12), .int r11, .ref a22, .int (iI x13), .int (iI x14), .int (iI x15), .int (iI x16)])), (a20, .inl (T 0, 160, .inl (cI (upz f0 x0 x7))))]) M w 1 rfl (iI_in (by omega) (by omega) (by decide)) (by rw [cI_up (by omega) (by omega)]; rfl) dX12_keep_13 (fun H locs w => ?_)
    refine lv_iload_n hx hb dX12_keep_14 rfl (lv_at hl 2 rfl) ?_
    exact ret _ (x1, (upz f0 x0 x7)) _ _ _ _ _ [0, 1] dX12_keep_15 (nb_n (by omega) (by omega)) ⟨rfl, x1_a, x1_b, (pp_v (by omega)), (show 0 ≤ (x1 - x1) from by omega), (show 0 ≤ (x1 - x1) from by omega)⟩ w (by decide) rfl
set_option maxRecDepth 100000 in
set_option maxHeartbeats 4000000 in
theorem c106_X12_readDoes (l : Launch) (D : va_G) (T : Nat → ClassId) (sz : Nat) (a0 : Nat) (x0 : Int) (r0 : Int32) (a1 : Nat) (x1 : Int) (x2 : Int) (r1 : Int32) (x3 : Int) (r2 : Int32) (x4 : Int) (x5 : Int) (r3 : Int32) (r4 : Int32) (r5 : Int32) (y0 : Int64) (x6 : Int) (a2 : Nat) (a3 : Nat) (a4 : Nat) (a5 : Nat) (a6 : Nat) (a7 : Nat) (a8 : Nat) (a9 : Nat) (a10 : Nat) (a11 : Nat) (x7 : Int) (a12 : Nat) (a13 : Nat) (a14 : Nat) (a15 : Nat) (x8 : Int) (r6 : Int32) (r7 : Int32) (a16 : Nat) (r8 : Int32) (r9 : Int32) (a17 : Nat) (a18 : Nat) (x9 : Int) (a19 : Nat) (x10 : Int) (r10 : Int32) (a20 : Nat) (a21 : Nat) (x11 : Int) (r11 : Int32) (a22 : Nat) (x12 : Int) (x13 : Int) (x14 : Int) (x15 : Int) (f0 : Nat → Int32) (f1 : Int → Int) (h0 : Nat → Int64) (f2 : Int → Int) (x0_a : 0 ≤ x0) (x0_b : x0 ≤ 156) (x1_a : 0 ≤ x1) (x1_b : x1 ≤ 940) (x2_a : 0 ≤ x2) (x2_b : x2 ≤ 940) (x3_a : 0 ≤ x3) (x3_b : x3 ≤ 940) (x4_a : 0 ≤ x4) (x4_b : x4 ≤ 4) (x5_a : (-2147483648) ≤ x5) (x5_b : x5 ≤ 2147483647) (x6_a : (-2147483648) ≤ x6) (x6_b : x6 ≤ 2147483647) (x7_a : 0 ≤ x7) (x7_b : x7 ≤ 8) (x8_a : 0 ≤ x8) (x8_b : x8 ≤ 9) (x9_a : 0 ≤ x9) (x9_b : x9 ≤ 9) (x10_a : 0 ≤ x10) (x10_b : x10 ≤ 64) (x11_a : 0 ≤ x11) (x11_b : x11 ≤ 40) (x12_a : 0 ≤ x12) (x12_b : x12 ≤ 40) (x13_a : 0 ≤ x13) (x13_b : x13 ≤ 20) (x14_a : 0 ≤ x14) (x14_b : x14 ≤ 8) (x15_a : 0 ≤ x15) (x15_b : x15 ≤ 39) (f1_h : nowI f1) (f2_h : lnI f2) (pp_x : 0 ≤ f2 (x0 + 1) ∧ f2 (x0 + 1) ≤ 2) (pr_0 : 0 ≤ (x0 - (x11 * 4))) (pr_1 : 0 ≤ ((x11 * 4) - x0)) (pr_2 : 0 ≤ (39 - x11)) : Met l yX12_readDoes (Cond.code yX12_readDoes cX12_readDoes 2 (some .boolean) :: GW) (Rm 4 0 0) (cPre [.ref a0, .int (iI x0)] D T [(a0, .inr (11, [.int r0, .ref a1, .int (iI x1), .int (iI x2), .int r1, .int (iI x3), .int r2, .int (iI x4), .int (iI x5), .int r3, .int r4, .int r5, .long y0, .int (iI x6), .ref a2, .ref a3, .ref a4, .ref a5, .ref a6, .ref a7, .ref a8, .ref a9, .ref a10, .ref a11, .int (iI x7), .ref a12, .ref a13, .ref a14, .ref a15, .int (iI x8), .int r6, .int r7, .ref a16, .int r8, .int r9, .ref a17, .ref a18, .int (iI x9), .ref a19, .int (iI x10), .int r10, .ref a20, .ref a21, .int (iI x11), .int r11, .ref a22, .int (iI x12), .int (iI x13), .int (iI x14), .int (iI x15)])), (a1, .inl (T 0, 940, .inl f0)), (a2, .inl (T 0, 329, .inl (cI f1))), (a7, .inl (T 1, 12, .inr (.inl h0))), (a20, .inl (T 0, 160, .inl (cI f2)))] sz) (qI D [(a0, .inr (11, [.int r0, .ref a1, .int (iI x1), .int (iI x2), .int r1, .int (iI x3), .int r2, .int (iI x4), .int (iI x5), .int r3, .int r4, .int r5, .long y0, .int (iI x6), .ref a2, .ref a3, .ref a4, .ref a5, .ref a6, .ref a7, .ref a8, .ref a9, .ref a10, .ref a11, .int (iI x7), .ref a12, .ref a13, .ref a14, .ref a15, .int (iI x8), .int r6, .int r7, .ref a16, .int r8, .int r9, .ref a17, .ref a18, .int (iI x9), .ref a19, .int (iI x10), .int r10, .ref a20, .ref a21, .int (iI x11), .int r11, .ref a22, .int (iI x12), .int (iI x13), .int (iI x14), .int (iI x15)])), (a1, .inl (T 0, 940, .inl f0)), (a2, .inl (T 0, 329, .inl (cI f1))), (a7, .inl (T 1, 12, .inr (.inl h0))), (a20, .inl (T 0, 160, .inl (cI f2)))] sz (fun (v : Int32) (u : Int × Int × Int32 × Int × Int × Int32 × Int32 × Int32 × Int64 × Int × (Int → Int)) => iI u.1 = v ∧ 0 ≤ u.1 ∧ u.1 ≤ 1 ∧ 0 ≤ u.2.1 ∧ u.2.1 ≤ 940 ∧ 0 ≤ u.2.2.2.1 ∧ u.2.2.2.1 ≤ 4 ∧ (-2147483648) ≤ u.2.2.2.2.1 ∧ u.2.2.2.2.1 ≤ 2147483647 ∧ (-2147483648) ≤ u.2.2.2.2.2.2.2.2.2.1 ∧ u.2.2.2.2.2.2.2.2.2.1 ≤ 2147483647 ∧ lnI u.2.2.2.2.2.2.2.2.2.2 ∧ 0 ≤ (u.2.1 - x3) ∧ 0 ≤ ((((u.2.1 - x3) - u.2.2.2.1) + 4) - u.1)) (fun u => [(a0, .inr (11, [.int r0, .ref a1, .int (iI x1), .int (iI x2), .int r1, .int (iI u.2.1), .int u.2.2.1, .int (iI u.2.2.2.1), .int (iI u.2.2.2.2.1), .int u.2.2.2.2.2.1, .int u.2.2.2.2.2.2.1, .int u.2.2.2.2.2.2.2.1, .long u.2.2.2.2.2.2.2.2.1, .int (iI u.2.2.2.2.2.2.2.2.2.1), .ref a2, .ref a3, .ref a4, .ref a5, .ref a6, .ref a7, .ref a8, .ref a9, .ref a10, .ref a11, .int (iI x7), .ref a12, .ref a13, .ref a14, .ref a15, .int (iI x8), .int r6, .int r7, .ref a16, .int r8, .int r9, .ref a17, .ref a18, .int (iI x9), .ref a19, .int (iI x10), .int r10, .ref a20, .ref a21, .int (iI x11), .int r11, .ref a22, .int (iI x12), .int (iI x13), .int (iI x14), .int (iI x15)])), (a1, .inl (T 0, 940, .inl f0)), (a2, .inl (T 0, 329, .inl (cI f1))), (a7, .inl (T 1, 12, .inr (.inl h0))), (a20, .inl (T 0, 160, .inl (cI u.2.2.2.2.2.2.2.2.2.2)))])) 0 0 (va_A [(a0, .inr (11, [.int r0, .ref a1, .int (iI x1), .int (iI x2), .int r1, .int (iI x3), .int r2, .int (iI x4), .int (iI x5), .int r3, .int r4, .int r5, .long y0, .int (iI x6), .ref a2, .ref a3, .ref a4, .ref a5, .ref a6, .ref a7, .ref a8, .ref a9, .ref a10, .ref a11, .int (iI x7), .ref a12, .ref a13, .ref a14, .ref a15, .int (iI x8), .int r6, .int r7, .ref a16, .int r8, .int r9, .ref a17, .ref a18, .int (iI x9), .ref a19, .int (iI x10), .int r10, .ref a20, .ref a21, .int (iI x11), .int r11, .ref a22, .int (iI x12), .int (iI x13), .int (iI x14), .int (iI x15)])), (a1, .inl (T 0, 940, .inl f0)), (a2, .inl (T 0, 329, .inl (cI f1))), (a7, .inl (T 1, 12, .inr (.inl h0))), (a20, .inl (T 0, 160, .inl (cI f2)))] sz) := by
  refine e_Z (by decide) (Nat.le_of_ble_eq_true rfl) ?_
  intro p e s m args below meth c A Q ls M hin w ret hl
  have hx := M.1.1
  have hb := M.1.2.1
  have hl : lv_has ls 2 [(0, .ref a0), (1, .int (iI x0))] := hl
  refine lv_aload_n hx hb dX12_readDoes_0 rfl (lv_at hl 0 rfl) ?_
  refine lv_bipush (v := iI 11) hx hb dX12_readDoes_1 (by decide +kernel) ?_
  refine k_I (ce := 0) (sl := 0) (rest := []) (wr := [(a1, .inl (T 0, 940, .inl f0)), (a2, .inl (T 0, 329, .inl (cI f1))), (a7, .inl (T 1, 12, .inr (.inl h0))), (a20, .inl (T 0, 160, .inl (cI f2)))]) (r_V (f := 2) [0] M w V_HookedCityModel_183 G1649 G52 (c15_X12_isWord l D T _ a0 11 r0 a1 x1 x2 r1 x3 r2 x4 x5 r3 r4 r5 y0 x6 a2 a3 a4 a5 a6 a7 a8 a9 a10 a11 x7 a12 a13 a14 a15 x8 r6 r7 a16 r8 r9 a17 a18 x9 a19 x10 r10 a20 a21 x11 r11 a22 x12 x13 x14 x15 (by decide) (by decide) x1_a x1_b x2_a x2_b x3_a x3_b x4_a x4_b x5_a x5_b x6_a x6_b x7_a x7_b x8_a x8_b x9_a x9_b x10_a x10_b x11_a x11_b x12_a x12_b x13_a x13_b x14_a x14_b x15_a x15_b) 0 clX12 rfl rfl (by decide) rfl hl.1 rfl (Nat.le_of_ble_eq_true rfl) dX12_readDoes_3 (by decide) (by decide) (by decide) (by decide)) w [0] [1, 2, 3, 4] rfl rfl (by decide) (by decide) rfl rfl (fun v z1 H locs hp w => ?_)
  have hv : iI z1 = v := hp.1
  subst hv
  have z1_a : 0 ≤ z1 := hp.2.1
  have z1_b : z1 ≤ 1 := hp.2.2
  have w : WD D A s.heap [(a1, .inl (T 0, 940, .inl f0)), (a2, .inl (T 0, 329, .inl (cI f1))), (a7, .inl (T 1, 12, .inr (.inl h0))), (a20, .inl (T 0, 160, .inl (cI f2))), (a0, .inr (11, [.int r0, .ref a1, .int (iI x1), .int (iI x2), .int r1, .int (iI x3), .int r2, .int (iI x4), .int (iI x5), .int r3, .int r4, .int r5, .long y0, .int (iI x6), .ref a2, .ref a3, .ref a4, .ref a5, .ref a6, .ref a7, .ref a8, .ref a9, .ref a10, .ref a11, .int (iI x7), .ref a12, .ref a13, .ref a14, .ref a15, .int (iI x8), .int r6, .int r7, .ref a16, .int r8, .int r9, .ref a17, .ref a18, .int (iI x9), .ref a19, .int (iI x10), .int r10, .ref a20, .ref a21, .int (iI x11), .int r11, .ref a22, .int (iI x12), .int (iI x13), .int (iI x14), .int (iI x15)]))] H locs := w
  refine lv_if_ne (tgt := 24) hx hb dX12_readDoes_6 (by decide) (fun c_2 => ?_) (fun c_2 => ?_)
  · replace c_2 : ¬ z1 = 0 := fun h => c_2 ((iz_eq (Int.le_trans (by decide) z1_a) (Int.le_trans z1_b (by decide))).mpr h)
    refine lv_aload_n hx hb dX12_readDoes_24 rfl (lv_at hl 0 rfl) ?_
    refine r_get (v := .ref a20) M w 4 41 clX12 rfl (by decide) G1504 rfl rfl dX12_readDoes_25 ?_
    refine lv_iload_n hx hb dX12_readDoes_28 rfl (lv_at hl 1 rfl) ?_
    refine lv_aload_n hx hb dX12_readDoes_29 rfl (lv_at hl 0 rfl) ?_
    refine lv_bipush (v := iI 11) hx hb dX12_readDoes_30 (by decide +kernel) ?_
    refine k_I (ce := 0) (sl := 0) (rest := [.int (iI x0), .ref a20]) (wr := [(a1, .inl (T 0, 940, .inl f0)), (a2, .inl (T 0, 329, .inl (cI f1))), (a7, .inl (T 1, 12, .inr (.inl h0))), (a20, .inl (T 0, 160, .inl (cI f2)))]) (r_V (f := 2) [4] M w V_HookedCityModel_183 G1649 G52 (c15_X12_isWord l D T _ a0 11 r0 a1 x1 x2 r1 x3 r2 x4 x5 r3 r4 r5 y0 x6 a2 a3 a4 a5 a6 a7 a8 a9 a10 a11 x7 a12 a13 a14 a15 x8 r6 r7 a16 r8 r9 a17 a18 x9 a19 x10 r10 a20 a21 x11 r11 a22 x12 x13 x14 x15 (by decide) (by decide) x1_a x1_b x2_a x2_b x3_a x3_b x4_a x4_b x5_a x5_b x6_a x6_b x7_a x7_b x8_a x8_b x9_a x9_b x10_a x10_b x11_a x11_b x12_a x12_b x13_a x13_b x14_a x14_b x15_a x15_b) 4 clX12 rfl rfl (by decide) rfl hl.1 rfl (Nat.le_of_ble_eq_true rfl) dX12_readDoes_32 (by decide) (by decide) (by decide) (by decide)) w [4] [0, 1, 2, 3] rfl rfl (by decide) (by decide) rfl rfl (fun v z3 H locs hp w => ?_)
    have hv : iI z3 = v := hp.1
    subst hv
    have z3_a : 0 ≤ z3 := hp.2.1
    have z3_b : z3 ≤ 1 := hp.2.2
    have w : WD D A s.heap [(a1, .inl (T 0, 940, .inl f0)), (a2, .inl (T 0, 329, .inl (cI f1))), (a7, .inl (T 1, 12, .inr (.inl h0))), (a20, .inl (T 0, 160, .inl (cI f2))), (a0, .inr (11, [.int r0, .ref a1, .int (iI x1), .int (iI x2), .int r1, .int (iI x3), .int r2, .int (iI x4), .int (iI x5), .int r3, .int r4, .int r5, .long y0, .int (iI x6), .ref a2, .ref a3, .ref a4, .ref a5, .ref a6, .ref a7, .ref a8, .ref a9, .ref a10, .ref a11, .int (iI x7), .ref a12, .ref a13, .ref a14, .ref a15, .int (iI x8), .int r6, .int r7, .ref a16, .int r8, .int r9, .ref a17, .ref a18, .int (iI x9), .ref a19, .int (iI x10), .int r10, .ref a20, .ref a21, .int (iI x11), .int r11, .ref a22, .int (iI x12), .int (iI x13), .int (iI x14), .int (iI x15)]))] H locs := w
    refine lv_if_eq (tgt := 42) hx hb dX12_readDoes_35 (by decide) (fun c_4 => ?_) (fun c_4 => ?_)
    · replace c_4 := (iz_eq (Int.le_trans (by decide) z3_a) (Int.le_trans z3_b (by decide))).mp c_4
      refine lv_iconst (v := iI 1) hx hb dX12_readDoes_42 (by decide +kernel) ?_
      refine r_iast (ws' := [(a1, .inl (T 0, 940, .inl f0)), (a2, .inl (T 0, 329, .inl (cI f1))), (a7, .inl (T 1, 12, .inr (.inl h0))), (a20, .inl (T 0, 160, .inl (cI (upz f2 x0 1)))), (a0, .inr (11, [.int r0, .ref a1, .int (iI x1), .int (iI x2), .int r1, .int (iI x3), .int r2, .int (iI x4), .int (iI x5), .int r3, .int r4, .int r5, .long y0, .int (iI x6), .ref a2, .ref a3, .ref a4, .ref a5, .ref a6, .ref a7, .ref a8, .ref a9, .ref a10, .ref a11, .int (iI x7), .ref a12, .ref a13, .ref a14, .ref a15, .int (iI x8), .int r6, .int r7, .ref a16, .int r8, .int r9, .ref a17, .ref a18, .int (iI x9), .ref a19, .int (iI x10), .int r10, .ref a20, .ref a21, .int (iI x11), .int r11, .ref a22, .int (iI x12), .int (iI x13), .int (iI x14), .int (iI x15)]))]) M w 3 rfl (iI_in (by omega) (by omega) (by decide)) (by rw [cI_up (by omega) (by omega)]; rfl) dX12_readDoes_43 (fun H locs w => ?_)
      refine lv_aload_n hx hb dX12_readDoes_44 rfl (lv_at hl 0 rfl) ?_
      refine k_V (ce := 0) (sl := 0) (rest := []) (wr := [(a2, .inl (T 0, 329, .inl (cI f1))), (a7, .inl (T 1, 12, .inr (.inl h0))), (a20, .inl (T 0, 160, .inl (cI (upz f2 x0 1))))]) (r_V (f := 1) [4, 0] M w V_HookedCityModel_82 G1629 G49 (c12_X12_go l D T _ a0 r0 a1 x1 x2 r1 x3 r2 x4 x5 r3 r4 r5 y0 x6 a2 a3 a4 a5 a6 a7 a8 a9 a10 a11 x7 a12 a13 a14 a15 x8 r6 r7 a16 r8 r9 a17 a18 x9 a19 x10 r10 a20 a21 x11 r11 a22 x12 x13 x14 x15 f0 x1_a x1_b x2_a x2_b x3_a x3_b x4_a x4_b x5_a x5_b x6_a x6_b x7_a x7_b x8_a x8_b x9_a x9_b x10_a x10_b x11_a x11_b x12_a x12_b x13_a x13_b x14_a x14_b x15_a x15_b) 4 clX12 rfl rfl (by decide) rfl hl.1 rfl (Nat.le_of_ble_eq_true rfl) dX12_readDoes_45 (by decide) (by decide) (by decide) (by decide)) w [4, 0] [1, 2, 3] rfl rfl (by decide) (by decide) rfl rfl (fun u H locs hp w => ?_)
      obtain ⟨z5, fr6, z7, z8, fr9, fy10⟩ := u
      have z5_a : 0 ≤ z5 := hp.1
      have z5_b : z5 ≤ 940 := hp.2.1
      have z7_a : 0 ≤ z7 := hp.2.2.1
      have z7_b : z7 ≤ 4 := hp.2.2.2.1
      have z8_a : (-2147483648) ≤ z8 := hp.2.2.2.2.1
      have z8_b : z8 ≤ 2147483647 := hp.2.2.2.2.2.1
      have ee11 : 0 ≤ (z5 - x3) := hp.2.2.2.2.2.2.1
      have ee12 : 0 ≤ (((z5 - x3) - z7) + 3) := hp.2.2.2.2.2.2.2
      have w : WD D A s.heap [(a2, .inl (T 0, 329, .inl (cI f1))), (a7, .inl (T 1, 12, .inr (.inl h0))), (a20, .inl (T 0, 160, .inl (cI (upz f2 x0 1)))), (a0, .inr (11, [.int r0, .ref a1, .int (iI x1), .int (iI x2), .int r1, .int (iI z5), .int fr6, .int (iI z7), .int (iI z8), .int fr9, .int r4, .int r5, .long fy10, .int (iI x6), .ref a2, .ref a3, .ref a4, .ref a5, .ref a6, .ref a7, .ref a8, .ref a9, .ref a10, .ref a11, .int (iI x7), .ref a12, .ref a13, .ref a14, .ref a15, .int (iI x8), .int r6, .int r7, .ref a16, .int r8, .int r9, .ref a17, .ref a18, .int (iI x9), .ref a19, .int (iI x10), .int r10, .ref a20, .ref a21, .int (iI x11), .int r11, .ref a22, .int (iI x12), .int (iI x13), .int (iI x14), .int (iI x15)])), (a1, .inl (T 0, 940, .inl f0))] H locs := w
      refine lv_aload_n hx hb dX12_readDoes_48 rfl (lv_at hl 0 rfl) ?_
      refine lv_iload_n hx hb dX12_readDoes_49 rfl (lv_at hl 1 rfl) ?_
      refine lv_iconst (v := iI 2) hx hb dX12_readDoes_50 (by decide +kernel) ?_
      refine r_iadd (v := iI (x0 + 2)) M (iI_add _ _) dX12_readDoes_51 ?_
      refine lv_aload_n hx hb dX12_readDoes_52 rfl (lv_at hl 0 rfl) ?_
      refine k_I (ce := 0) (sl := 0) (rest := [.int (iI (x0 + 2)), .ref a0]) (wr := [(a20, .inl (T 0, 160, .inl (cI (upz f2 x0 1))))]) (r_V (f := 3) [3, 4, 0, 1] M w V_HookedCityModel_370 G1989 G104 (c104_X12_readPersonName l D T _ a0 r0 a1 x1 x2 r1 z5 fr6 z7 z8 fr9 r4 r5 fy10 x6 a2 a3 a4 a5 a6 a7 a8 a9 a10 a11 x7 a12 a13 a14 a15 x8 r6 r7 a16 r8 r9 a17 a18 x9 a19 x10 r10 a20 a21 x11 r11 a22 x12 x13 x14 x15 f0 f1 h0 x1_a x1_b x2_a x2_b z5_a z5_b z7_a z7_b z8_a z8_b x6_a x6_b x7_a x7_b x8_a x8_b x9_a x9_b x10_a x10_b x11_a x11_b x12_a x12_b x13_a x13_b x14_a x14_b x15_a x15_b f1_h) 3 clX12 rfl rfl (by decide) rfl hl.1 rfl (Nat.le_of_ble_eq_true rfl) dX12_readDoes_53 (by decide) (by decide) (by decide) (by decide)) w [3, 4, 0, 1] [2] rfl rfl (by decide) (by decide) rfl rfl (fun v u H locs hp w => ?_)
      obtain ⟨z13, z14, fr15, z16, z17, fr18, fr19, fr20, fy21, z22⟩ := u
      have hv : iI z13 = v := hp.1
      subst hv
      have z13_a : 0 ≤ z13 := hp.2.1
      have z13_b : z13 ≤ 1 := hp.2.2.1
      have z14_a : 0 ≤ z14 := hp.2.2.2.1
      have z14_b : z14 ≤ 940 := hp.2.2.2.2.1
      have z16_a : 0 ≤ z16 := hp.2.2.2.2.2.1
      have z16_b : z16 ≤ 4 := hp.2.2.2.2.2.2.1
      have z17_a : (-2147483648) ≤ z17 := hp.2.2.2.2.2.2.2.1
      have z17_b : z17 ≤ 2147483647 := hp.2.2.2.2.2.2.2.2.1
      have z22_a : (-2147483648) ≤ z22 := hp.2.2.2.2.2.2.2.2.2.1
      have z22_b : z22 ≤ 2147483647 := hp.2.2.2.2.2.2.2.2.2.2.1
      have ee23 : 0 ≤ (z14 - z5) := hp.2.2.2.2.2.2.2.2.2.2.2.1
      have ee24 : 0 ≤ ((((z14 - z5) - z16) + 4) - z13) := hp.2.2.2.2.2.2.2.2.2.2.2.2.1
      have ee25 : 0 ≤ ((z22 + 4294967296) - (z13 * 4294967296)) := hp.2.2.2.2.2.2.2.2.2.2.2.2.2.1
      have ee26 : 0 ≤ (((8 - z22) + 4294967296) - (z13 * 4294967296)) := hp.2.2.2.2.2.2.2.2.2.2.2.2.2.2
      have w : WD D A s.heap [(a20, .inl (T 0, 160, .inl (cI (upz f2 x0 1)))), (a0, .inr (11, [.int r0, .ref a1, .int (iI x1), .int (iI x2), .int r1, .int (iI z14), .int fr15, .int (iI z16), .int (iI z17), .int fr18, .int fr19, .int fr20, .long fy21, .int (iI z22), .ref a2, .ref a3, .ref a4, .ref a5, .ref a6, .ref a7, .ref a8, .ref a9, .ref a10, .ref a11, .int (iI x7), .ref a12, .ref a13, .ref a14, .ref a15, .int (iI x8), .int r6, .int r7, .ref a16, .int r8, .int r9, .ref a17, .ref a18, .int (iI x9), .ref a19, .int (iI x10), .int r10, .ref a20, .ref a21, .int (iI x11), .int r11, .ref a22, .int (iI x12), .int (iI x13), .int (iI x14), .int (iI x15)])), (a1, .inl (T 0, 940, .inl f0)), (a2, .inl (T 0, 329, .inl (cI f1))), (a7, .inl (T 1, 12, .inr (.inl h0)))] H locs := w
      refine k_I (ce := 0) (sl := 0) (rest := []) (wr := [(a1, .inl (T 0, 940, .inl f0)), (a2, .inl (T 0, 329, .inl (cI f1))), (a7, .inl (T 1, 12, .inr (.inl h0)))]) (r_V (f := 0) [1, 0] M w V_HookedCityModel_373 G1993 G105 (c105_X12_keep l D T _ a0 (x0 + 2) z13 r0 a1 x1 x2 r1 z14 fr15 z16 z17 fr18 fr19 fr20 fy21 z22 a2 a3 a4 a5 a6 a7 a8 a9 a10 a11 x7 a12 a13 a14 a15 x8 r6 r7 a16 r8 r9 a17 a18 x9 a19 x10 r10 a20 a21 x11 r11 a22 x12 x13 x14 x15 (upz f2 x0 1) (by omega) (by omega) z13_a z13_b x1_a x1_b x2_a x2_b z14_a z14_b z16_a z16_b z17_a z17_b z22_a z22_b x7_a x7_b x8_a x8_b x9_a x9_b x10_a x10_b x11_a x11_b x12_a x12_b x13_a x13_b x14_a x14_b x15_a x15_b (ln_op f2_h (n := x11) (by omega) (by omega) (by omega) (by decide) (by decide) pp_x) (fun h => ln_p (ln_op f2_h (n := x11) (by omega) (by omega) (by omega) (by decide) (by decide) pp_x) (n := x11) (by omega) (by omega) (by omega) (by omega) (by omega))) 1 clX12 rfl rfl (by decide) rfl hl.1 rfl (Nat.le_of_ble_eq_true rfl) dX12_readDoes_56 (by decide) (by decide) (by decide) (by decide)) w [1, 0] [2, 3, 4] rfl rfl (by decide) (by decide) rfl rfl (fun v u H locs hp w => ?_)
      obtain ⟨z27, ff28⟩ := u
      have hv : iI z27 = v := hp.1
      subst hv
      have z27_a : 0 ≤ z27 := hp.2.1
      have z27_b : z27 ≤ 1 := hp.2.2.1
      have ff28_h : lnI ff28 := hp.2.2.2.1
      have ee29 : 0 ≤ (z13 - z27) := hp.2.2.2.2.1
      have ee30 : 0 ≤ (z27 - z13) := hp.2.2.2.2.2
      have w : WD D A s.heap [(a1, .inl (T 0, 940, .inl f0)), (a2, .inl (T 0, 329, .inl (cI f1))), (a7, .inl (T 1, 12, .inr (.inl h0))), (a0, .inr (11, [.int r0, .ref a1, .int (iI x1), .int (iI x2), .int r1, .int (iI z14), .int fr15, .int (iI z16), .int (iI z17), .int fr18, .int fr19, .int fr20, .long fy21, .int (iI z22), .ref a2, .ref a3, .ref a4, .ref a5, .ref a6, .ref a7, .ref a8, .ref a9, .ref a10, .ref a11, .int (iI x7), .ref a12, .ref a13, .ref a14, .ref a15, .int (iI x8), .int r6, .int r7, .ref a16, .int r8, .int r9, .ref a17, .ref a18, .int (iI x9), .ref a19, .int (iI x10), .int r10, .ref a20, .ref a21, .int (iI x11), .int r11, .ref a22, .int (iI x12), .int (iI x13), .int (iI x14), .int (iI x15)])), (a20, .inl (T 0, 160, .inl (cI ff28)))] H locs := w
      refine lv_if_eq (tgt := 90) hx hb dX12_readDoes_59 (by decide) (fun c_31 => ?_) (fun c_31 => ?_)
      · replace c_31 := (iz_eq (Int.le_trans (by decide) z27_a) (Int.le_trans z27_b (by decide))).mp c_31
        refine lv_iconst (v := iI 0) hx hb dX12_readDoes_90 (by decide +kernel) ?_
        exact ret _ (0, z14, fr15, z16, z17, fr18, fr19, fr20, fy21, z22, ff28) _ _ _ _ _ [3, 0, 1, 2, 4] dX12_readDoes_91 (by decide +kernel) ⟨rfl, (show (0 : Int) ≤ 0 from by decide), (show (0 : Int) ≤ 1 from by decide), z14_a, z14_b, z16_a, z16_b, z17_a, z17_b, z22_a, z22_b, ff28_h, (show 0 ≤ (z14 - x3) from by omega), (show 0 ≤ ((((z14 - x3) - z16) + 4) - 0) from by omega)⟩ w (by decide) rfl
      · replace c_31 : ¬ z27 = 0 := fun h => c_31 ((iz_eq (Int.le_trans (by decide) z27_a) (Int.le_trans z27_b (by decide))).mpr h)
        refine lv_aload_n hx hb dX12_readDoes_62 rfl (lv_at hl 0 rfl) ?_
        refine r_get (v := .ref a20) M w 3 41 clX12 rfl (by decide) G1504 rfl rfl dX12_readDoes_63 ?_
        refine lv_iload_n hx hb dX12_readDoes_66 rfl (lv_at hl 1 rfl) ?_
        refine r_iald (v := iI (ff28 x0)) M w 4 rfl (iI_in (by omega) (by omega) (by decide)) (cI_at (by omega) (by omega)) dX12_readDoes_67 ?_
        have hh32 : (-2147483648) ≤ (ff28 x0) ∧ (ff28 x0) ≤ 2147483647 := ff28_h.1 x0
        refine lv_iconst (v := iI 1) hx hb dX12_readDoes_68 (by decide +kernel) ?_
        refine lv_icmp_eq (tgt := 86) hx hb dX12_readDoes_69 (by decide) (fun c_33 => ?_) (fun c_33 => ?_)
        · replace c_33 := (iI_eq (by omega) (by omega) (by decide) (by decide)).mp c_33
          refine lv_iconst (v := iI 1) hx hb dX12_readDoes_86 (by decide +kernel) ?_
          refine lv_goto (tgt := 91) hx hb dX12_readDoes_87 (by decide) ?_
          exact ret _ (1, z14, fr15, z16, z17, fr18, fr19, fr20, fy21, z22, ff28) _ _ _ _ _ [3, 0, 1, 2, 4] dX12_readDoes_91 (by decide +kernel) ⟨rfl, (show (0 : Int) ≤ 1 from by decide), (show (1 : Int) ≤ 1 from by decide), z14_a, z14_b, z16_a, z16_b, z17_a, z17_b, z22_a, z22_b, ff28_h, (show 0 ≤ (z14 - x3) from by omega), (show 0 ≤ ((((z14 - x3) - z16) + 4) - 1) from by omega)⟩ w (by decide) rfl
        · replace c_33 : ¬ (ff28 x0) = 1 := fun h => c_33 ((iI_eq (by omega) (by omega) (by decide) (by decide)).mpr h)
          refine lv_aload_n hx hb dX12_readDoes_72 rfl (lv_at hl 0 rfl) ?_
          refine lv_iload_n hx hb dX12_readDoes_73 rfl (lv_at hl 1 rfl) ?_
          refine lv_iconst (v := iI 3) hx hb dX12_readDoes_74 (by decide +kernel) ?_
          refine r_iadd (v := iI (x0 + 3)) M (iI_add _ _) dX12_readDoes_75 ?_
          refine lv_aload_n hx hb dX12_readDoes_76 rfl (lv_at hl 0 rfl) ?_
          refine k_I (ce := 0) (sl := 0) (rest := [.int (iI (x0 + 3)), .ref a0]) (wr := [(a20, .inl (T 0, 160, .inl (cI ff28)))]) (r_V (f := 3) [3, 0, 1, 2] M w V_HookedCityModel_370 G1989 G104 (c104_X12_readPersonName l D T _ a0 r0 a1 x1 x2 r1 z14 fr15 z16 z17 fr18 fr19 fr20 fy21 z22 a2 a3 a4 a5 a6 a7 a8 a9 a10 a11 x7 a12 a13 a14 a15 x8 r6 r7 a16 r8 r9 a17 a18 x9 a19 x10 r10 a20 a21 x11 r11 a22 x12 x13 x14 x15 f0 f1 h0 x1_a x1_b x2_a x2_b z14_a z14_b z16_a z16_b z17_a z17_b z22_a z22_b x7_a x7_b x8_a x8_b x9_a x9_b x10_a x10_b x11_a x11_b x12_a x12_b x13_a x13_b x14_a x14_b x15_a x15_b f1_h) 3 clX12 rfl rfl (by decide) rfl hl.1 rfl (Nat.le_of_ble_eq_true rfl) dX12_readDoes_77 (by decide) (by decide) (by decide) (by decide)) w [3, 0, 1, 2] [4] rfl rfl (by decide) (by decide) rfl rfl (fun v u H locs hp w => ?_)
          obtain ⟨z34, z35, fr36, z37, z38, fr39, fr40, fr41, fy42, z43⟩ := u
          have hv : iI z34 = v := hp.1
          subst hv
          have z34_a : 0 ≤ z34 := hp.2.1
          have z34_b : z34 ≤ 1 := hp.2.2.1
          have z35_a : 0 ≤ z35 := hp.2.2.2.1
          have z35_b : z35 ≤ 940 := hp.2.2.2.2.1
          have z37_a : 0 ≤ z37 := hp.2.2.2.2.2.1
          have z37_b : z37 ≤ 4 := hp.2.2.2.2.2.2.1
          have z38_a : (-2147483648) ≤ z38 := hp.2.2.2.2.2.2.2.1
          have z38_b : z38 ≤ 2147483647 := hp.2.2.2.2.2.2.2.2.1
          have z43_a : (-2147483648) ≤ z43 := hp.2.2.2.2.2.2.2.2.2.1
          have z43_b : z43 ≤ 2147483647 := hp.2.2.2.2.2.2.2.2.2.2.1
          have ee44 : 0 ≤ (z35 - z14) := hp.2.2.2.2.2.2.2.2.2.2.2.1
          have ee45 : 0 ≤ ((((z35 - z14) - z37) + 4) - z34) := hp.2.2.2.2.2.2.2.2.2.2.2.2.1
          have ee46 : 0 ≤ ((z43 + 4294967296) - (z34 * 4294967296)) := hp.2.2.2.2.2.2.2.2.2.2.2.2.2.1
          have ee47 : 0 ≤ (((8 - z43) + 4294967296) - (z34 * 4294967296)) := hp.2.2.2.2.2.2.2.2.2.2.2.2.2.2
          have w : WD D A s.heap [(a20, .inl (T 0, 160, .inl (cI ff28))), (a0, .inr (11, [.int r0, .ref a1, .int (iI x1), .int (iI x2), .int r1, .int (iI z35), .int fr36, .int (iI z37), .int (iI z38), .int fr39, .int fr40, .int fr41, .long fy42, .int (iI z43), .ref a2, .ref a3, .ref a4, .ref a5, .ref a6, .ref a7, .ref a8, .ref a9, .ref a10, .ref a11, .int (iI x7), .ref a12, .ref a13, .ref a14, .ref a15, .int (iI x8), .int r6, .int r7, .ref a16, .int r8, .int r9, .ref a17, .ref a18, .int (iI x9), .ref a19, .int (iI x10), .int r10, .ref a20, .ref a21, .int (iI x11), .int r11, .ref a22, .int (iI x12), .int (iI x13), .int (iI x14), .int (iI x15)])), (a1, .inl (T 0, 940, .inl f0)), (a2, .inl (T 0, 329, .inl (cI f1))), (a7, .inl (T 1, 12, .inr (.inl h0)))] H locs := w
          refine k_I (ce := 0) (sl := 0) (rest := []) (wr := [(a1, .inl (T 0, 940, .inl f0)), (a2, .inl (T 0, 329, .inl (cI f1))), (a7, .inl (T 1, 12, .inr (.inl h0)))]) (r_V (f := 0) [1, 0] M w V_HookedCityModel_373 G1993 G105 (c105_X12_keep l D T _ a0 (x0 + 3) z34 r0 a1 x1 x2 r1 z35 fr36 z37 z38 fr39 fr40 fr41 fy42 z43 a2 a3 a4 a5 a6 a7 a8 a9 a10 a11 x7 a12 a13 a14 a15 x8 r6 r7 a16 r8 r9 a17 a18 x9 a19 x10 r10 a20 a21 x11 r11 a22 x12 x13 x14 x15 ff28 (by omega) (by omega) z34_a z34_b x1_a x1_b x2_a x2_b z35_a z35_b z37_a z37_b z38_a z38_b z43_a z43_b x7_a x7_b x8_a x8_b x9_a x9_b x10_a x10_b x11_a x11_b x12_a x12_b x13_a x13_b x14_a x14_b x15_a x15_b ff28_h (fun h => ln_q ff28_h (n := x11) (by omega) (by omega) (by omega) (by omega) (by omega))) 1 clX12 rfl rfl (by decide) rfl hl.1 rfl (Nat.le_of_ble_eq_true rfl) dX12_readDoes_80 (by decide) (by decide) (by decide) (by decide)) w [1, 0] [2, 3, 4] rfl rfl (by decide) (by decide) rfl rfl (fun v u H locs hp w => ?_)
          obtain ⟨z48, ff49⟩ := u
          have hv : iI z48 = v := hp.1
          subst hv
          have z48_a : 0 ≤ z48 := hp.2.1
          have z48_b : z48 ≤ 1 := hp.2.2.1
          have ff49_h : lnI ff49 := hp.2.2.2.1
          have ee50 : 0 ≤ (z34 - z48) := hp.2.2.2.2.1
          have ee51 : 0 ≤ (z48 - z34) := hp.2.2.2.2.2
          have w : WD D A s.heap [(a1, .inl (T 0, 940, .inl f0)), (a2, .inl (T 0, 329, .inl (cI f1))), (a7, .inl (T 1, 12, .inr (.inl h0))), (a0, .inr (11, [.int r0, .ref a1, .int (iI x1), .int (iI x2), .int r1, .int (iI z35), .int fr36, .int (iI z37), .int (iI z38), .int fr39, .int fr40, .int fr41, .long fy42, .int (iI z43), .ref a2, .ref a3, .ref a4, .ref a5, .ref a6, .ref a7, .ref a8, .ref a9, .ref a10, .ref a11, .int (iI x7), .ref a12, .ref a13, .ref a14, .ref a15, .int (iI x8), .int r6, .int r7, .ref a16, .int r8, .int r9, .ref a17, .ref a18, .int (iI x9), .ref a19, .int (iI x10), .int r10, .ref a20, .ref a21, .int (iI x11), .int r11, .ref a22, .int (iI x12), .int (iI x13), .int (iI x14), .int (iI x15)])), (a20, .inl (T 0, 160, .inl (cI ff49)))] H locs := w
          refine lv_if_eq (tgt := 90) hx hb dX12_readDoes_83 (by decide) (fun c_52 => ?_) (fun c_52 => ?_)
          · replace c_52 := (iz_eq (Int.le_trans (by decide) z48_a) (Int.le_trans z48_b (by decide))).mp c_52
            refine lv_iconst (v := iI 0) hx hb dX12_readDoes_90 (by decide +kernel) ?_
            exact ret _ (0, z35, fr36, z37, z38, fr39, fr40, fr41, fy42, z43, ff49) _ _ _ _ _ [3, 0, 1, 2, 4] dX12_readDoes_91 (by decide +kernel) ⟨rfl, (show (0 : Int) ≤ 0 from by decide), (show (0 : Int) ≤ 1 from by decide), z35_a, z35_b, z37_a, z37_b, z38_a, z38_b, z43_a, z43_b, ff49_h, (show 0 ≤ (z35 - x3) from by omega), (show 0 ≤ ((((z35 - x3) - z37) + 4) - 0) from by omega)⟩ w (by decide) rfl
          · replace c_52 : ¬ z48 = 0 := fun h => c_52 ((iz_eq (Int.le_trans (by decide) z48_a) (Int.le_trans z48_b (by decide))).mpr h)
            refine lv_iconst (v := iI 1) hx hb dX12_readDoes_86 (by decide +kernel) ?_
            refine lv_goto (tgt := 91) hx hb dX12_readDoes_87 (by decide) ?_
            exact ret _ (1, z35, fr36, z37, z38, fr39, fr40, fr41, fy42, z43, ff49) _ _ _ _ _ [3, 0, 1, 2, 4] dX12_readDoes_91 (by decide +kernel) ⟨rfl, (show (0 : Int) ≤ 1 from by decide), (show (1 : Int) ≤ 1 from by decide), z35_a, z35_b, z37_a, z37_b, z38_a, z38_b, z43_a, z43_b, ff49_h, (show 0 ≤ (z35 - x3) from by omega), (show 0 ≤ ((((z35 - x3) - z37) + 4) - 1) from by omega)⟩ w (by decide) rfl
    · replace c_4 : ¬ z3 = 0 := fun h => c_4 ((iz_eq (Int.le_trans (by decide) z3_a) (Int.le_trans z3_b (by decide))).mpr h)
      refine lv_iconst (v := iI 0) hx hb dX12_readDoes_38 (by decide +kernel) ?_
      refine lv_goto (tgt := 43) hx hb dX12_readDoes_39 (by decide) ?_
      refine r_iast (ws' := [(a1, .inl (T 0, 940, .inl f0)), (a2, .inl (T 0, 329, .inl (cI f1))), (a7, .inl (T 1, 12, .inr (.inl h0))), (a20, .inl (T 0, 160, .inl (cI (upz f2 x0 0)))), (a0, .inr (11, [.int r0, .ref a1, .int (iI x1), .int (iI x2), .int r1, .int (iI x3), .int r2, .int (iI x4), .int (iI x5), .int r3, .int r4, .int r5, .long y0, .int (iI x6), .ref a2, .ref a3, .ref a4, .ref a5, .ref a6, .ref a7, .ref a8, .ref a9, .ref a10, .ref a11, .int (iI x7), .ref a12, .ref a13, .ref a14, .ref a15, .int (iI x8), .int r6, .int r7, .ref a16, .int r8, .int r9, .ref a17, .ref a18, .int (iI x9), .ref a19, .int (iI x10), .int r10, .ref a20, .ref a21, .int (iI x11), .int r11, .ref a22, .int (iI x12), .int (iI x13), .int (iI x14), .int (iI x15)]))]) M w 3 rfl (iI_in (by omega) (by omega) (by decide)) (by rw [cI_up (by omega) (by omega)]; rfl) dX12_readDoes_43 (fun H locs w => ?_)
      refine lv_aload_n hx hb dX12_readDoes_44 rfl (lv_at hl 0 rfl) ?_
      refine k_V (ce := 0) (sl := 0) (rest := []) (wr := [(a2, .inl (T 0, 329, .inl (cI f1))), (a7, .inl (T 1, 12, .inr (.inl h0))), (a20, .inl (T 0, 160, .inl (cI (upz f2 x0 0))))]) (r_V (f := 1) [4, 0] M w V_HookedCityModel_82 G1629 G49 (c12_X12_go l D T _ a0 r0 a1 x1 x2 r1 x3 r2 x4 x5 r3 r4 r5 y0 x6 a2 a3 a4 a5 a6 a7 a8 a9 a10 a11 x7 a12 a13 a14 a15 x8 r6 r7 a16 r8 r9 a17 a18 x9 a19 x10 r10 a20 a21 x11 r11 a22 x12 x13 x14 x15 f0 x1_a x1_b x2_a x2_b x3_a x3_b x4_a x4_b x5_a x5_b x6_a x6_b x7_a x7_b x8_a x8_b x9_a x9_b x10_a x10_b x11_a x11_b x12_a x12_b x13_a x13_b x14_a x14_b x15_a x15_b) 4 clX12 rfl rfl (by decide) rfl hl.1 rfl (Nat.le_of_ble_eq_true rfl) dX12_readDoes_45 (by decide) (by decide) (by decide) (by decide)) w [4, 0] [1, 2, 3] rfl rfl (by decide) (by decide) rfl rfl (fun u H locs hp w => ?_)
      obtain ⟨z53, fr54, z55, z56, fr57, fy58⟩ := u
      have z53_a : 0 ≤ z53 := hp.1
      have z53_b : z53 ≤ 940 := hp.2.1
      have z55_a : 0 ≤ z55 := hp.2.2.1
      have z55_b : z55 ≤ 4 := hp.2.2.2.1
      have z56_a : (-2147483648) ≤ z56 := hp.2.2.2.2.1
      have z56_b : z56 ≤ 2147483647 := hp.2.2.2.2.2.1
      have ee59 : 0 ≤ (z53 - x3) := hp.2.2.2.2.2.2.1
      have ee60 : 0 ≤ (((z53 - x3) - z55) + 3) := hp.2.2.2.2.2.2.2
      have w : WD D A s.heap [(a2, .inl (T 0, 329, .inl (cI f1))), (a7, .inl (T 1, 12, .inr (.inl h0))), (a20, .inl (T 0, 160, .inl (cI (upz f2 x0 0)))), (a0, .inr (11, [.int r0, .ref a1, .int (iI x1), .int (iI x2), .int r1, .int (iI z53), .int fr54, .int (iI z55), .int (iI z56), .int fr57, .int r4, .int r5, .long fy58, .int (iI x6), .ref a2, .ref a3, .ref a4, .ref a5, .ref a6, .ref a7, .ref a8, .ref a9, .ref a10, .ref a11, .int (iI x7), .ref a12, .ref a13, .ref a14, .ref a15, .int (iI x8), .int r6, .int r7, .ref a16, .int r8, .int r9, .ref a17, .ref a18, .int (iI x9), .ref a19, .int (iI x10), .int r10, .ref a20, .ref a21, .int (iI x11), .int r11, .ref a22, .int (iI x12), .int (iI x13), .int (iI x14), .int (iI x15)])), (a1, .inl (T 0, 940, .inl f0))] H locs := w
      refine lv_aload_n hx hb dX12_readDoes_48 rfl (lv_at hl 0 rfl) ?_
      refine lv_iload_n hx hb dX12_readDoes_49 rfl (lv_at hl 1 rfl) ?_
      refine lv_iconst (v := iI 2) hx hb dX12_readDoes_50 (by decide +kernel) ?_
      refine r_iadd (v := iI (x0 + 2)) M (iI_add _ _) dX12_readDoes_51 ?_
      refine lv_aload_n hx hb dX12_readDoes_52 rfl (lv_at hl 0 rfl) ?_
      refine k_I (ce := 0) (sl := 0) (rest := [.int (iI (x0 + 2)), .ref a0]) (wr := [(a20, .inl (T 0, 160, .inl (cI (upz f2 x0 0))))]) (r_V (f := 3) [3, 4, 0, 1] M w V_HookedCityModel_370 G1989 G104 (c104_X12_readPersonName l D T _ a0 r0 a1 x1 x2 r1 z53 fr54 z55 z56 fr57 r4 r5 fy58 x6 a2 a3 a4 a5 a6 a7 a8 a9 a10 a11 x7 a12 a13 a14 a15 x8 r6 r7 a16 r8 r9 a17 a18 x9 a19 x10 r10 a20 a21 x11 r11 a22 x12 x13 x14 x15 f0 f1 h0 x1_a x1_b x2_a x2_b z53_a z53_b z55_a z55_b z56_a z56_b x6_a x6_b x7_a x7_b x8_a x8_b x9_a x9_b x10_a x10_b x11_a x11_b x12_a x12_b x13_a x13_b x14_a x14_b x15_a x15_b f1_h) 3 clX12 rfl rfl (by decide) rfl hl.1 rfl (Nat.le_of_ble_eq_true rfl) dX12_readDoes_53 (by decide) (by decide) (by decide) (by decide)) w [3, 4, 0, 1] [2] rfl rfl (by decide) (by decide) rfl rfl (fun v u H locs hp w => ?_)
      obtain ⟨z61, z62, fr63, z64, z65, fr66, fr67, fr68, fy69, z70⟩ := u
      have hv : iI z61 = v := hp.1
      subst hv
      have z61_a : 0 ≤ z61 := hp.2.1
      have z61_b : z61 ≤ 1 := hp.2.2.1
      have z62_a : 0 ≤ z62 := hp.2.2.2.1
      have z62_b : z62 ≤ 940 := hp.2.2.2.2.1
      have z64_a : 0 ≤ z64 := hp.2.2.2.2.2.1
      have z64_b : z64 ≤ 4 := hp.2.2.2.2.2.2.1
      have z65_a : (-2147483648) ≤ z65 := hp.2.2.2.2.2.2.2.1
      have z65_b : z65 ≤ 2147483647 := hp.2.2.2.2.2.2.2.2.1
      have z70_a : (-2147483648) ≤ z70 := hp.2.2.2.2.2.2.2.2.2.1
      have z70_b : z70 ≤ 2147483647 := hp.2.2.2.2.2.2.2.2.2.2.1
      have ee71 : 0 ≤ (z62 - z53) := hp.2.2.2.2.2.2.2.2.2.2.2.1
      have ee72 : 0 ≤ ((((z62 - z53) - z64) + 4) - z61) := hp.2.2.2.2.2.2.2.2.2.2.2.2.1
      have ee73 : 0 ≤ ((z70 + 4294967296) - (z61 * 4294967296)) := hp.2.2.2.2.2.2.2.2.2.2.2.2.2.1
      have ee74 : 0 ≤ (((8 - z70) + 4294967296) - (z61 * 4294967296)) := hp.2.2.2.2.2.2.2.2.2.2.2.2.2.2
      have w : WD D A s.heap [(a20, .inl (T 0, 160, .inl (cI (upz f2 x0 0)))), (a0, .inr (11, [.int r0, .ref a1, .int (iI x1), .int (iI x2), .int r1, .int (iI z62), .int fr63, .int (iI z64), .int (iI z65), .int fr66, .int fr67, .int fr68, .long fy69, .int (iI z70), .ref a2, .ref a3, .ref a4, .ref a5, .ref a6, .ref a7, .ref a8, .ref a9, .ref a10, .ref a11, .int (iI x7), .ref a12, .ref a13, .ref a14, .ref a15, .int (iI x8), .int r6, .int r7, .ref a16, .int r8, .int r9, .ref a17, .ref a18, .int (iI x9), .ref a19, .int (iI x10), .int r10, .ref a20, .ref a21, .int (iI x11), .int r11, .ref a22, .int (iI x12), .int (iI x13), .int (iI x14), .int (iI x15)])), (a1, .inl (T 0, 940, .inl f0)), (a2, .inl (T 0, 329, .inl (cI f1))), (a7, .inl (T 1, 12, .inr (.inl h0)))] H locs := w
      refine k_I (ce := 0) (sl := 0) (rest := []) (wr := [(a1, .inl (T 0, 940, .inl f0)), (a2, .inl (T 0, 329, .inl (cI f1))), (a7, .inl (T 1, 12, .inr (.inl h0)))]) (r_V (f := 0) [1, 0] M w V_HookedCityModel_373 G1993 G105 (c105_X12_keep l D T _ a0 (x0 + 2) z61 r0 a1 x1 x2 r1 z62 fr63 z64 z65 fr66 fr67 fr68 fy69 z70 a2 a3 a4 a5 a6 a7 a8 a9 a10 a11 x7 a12 a13 a14 a15 x8 r6 r7 a16 r8 r9 a17 a18 x9 a19 x10 r10 a20 a21 x11 r11 a22 x12 x13 x14 x15 (upz f2 x0 0) (by omega) (by omega) z61_a z61_b x1_a x1_b x2_a x2_b z62_a z62_b z64_a z64_b z65_a z65_b z70_a z70_b x7_a x7_b x8_a x8_b x9_a x9_b x10_a x10_b x11_a x11_b x12_a x12_b x13_a x13_b x14_a x14_b x15_a x15_b (ln_op f2_h (n := x11) (by omega) (by omega) (by omega) (by decide) (by decide) pp_x) (fun h => ln_p (ln_op f2_h (n := x11) (by omega) (by omega) (by omega) (by decide) (by decide) pp_x) (n := x11) (by omega) (by omega) (by omega) (by omega) (by omega))) 1 clX12 rfl rfl (by decide) rfl hl.1 rfl (Nat.le_of_ble_eq_true rfl) dX12_readDoes_56 (by decide) (by decide) (by decide) (by decide)) w [1, 0] [2, 3, 4] rfl rfl (by decide) (by decide) rfl rfl (fun v u H locs hp w => ?_)
      obtain ⟨z75, ff76⟩ := u
      have hv : iI z75 = v := hp.1
      subst hv
      have z75_a : 0 ≤ z75 := hp.2.1
      have z75_b : z75 ≤ 1 := hp.2.2.1
      have ff76_h : lnI ff76 := hp.2.2.2.1
      have ee77 : 0 ≤ (z61 - z75) := hp.2.2.2.2.1
      have ee78 : 0 ≤ (z75 - z61) := hp.2.2.2.2.2
      have w : WD D A s.heap [(a1, .inl (T 0, 940, .inl f0)), (a2, .inl (T 0, 329, .inl (cI f1))), (a7, .inl (T 1, 12, .inr (.inl h0))), (a0, .inr (11, [.int r0, .ref a1, .int (iI x1), .int (iI x2), .int r1, .int (iI z62), .int fr63, .int (iI z64), .int (iI z65), .int fr66, .int fr67, .int fr68, .long fy69, .int (iI z70), .ref a2, .ref a3, .ref a4, .ref a5, .ref a6, .ref a7, .ref a8, .ref a9, .ref a10, .ref a11, .int (iI x7), .ref a12, .ref a13, .ref a14, .ref a15, .int (iI x8), .int r6, .int r7, .ref a16, .int r8, .int r9, .ref a17, .ref a18, .int (iI x9), .ref a19, .int (iI x10), .int r10, .ref a20, .ref a21, .int (iI x11), .int r11, .ref a22, .int (iI x12), .int (iI x13), .int (iI x14), .int (iI x15)])), (a20, .inl (T 0, 160, .inl (cI ff76)))] H locs := w
      refine lv_if_eq (tgt := 90) hx hb dX12_readDoes_59 (by decide) (fun c_79 => ?_) (fun c_79 => ?_)
      · replace c_79 := (iz_eq (Int.le_trans (by decide) z75_a) (Int.le_trans z75_b (by decide))).mp c_79
        refine lv_iconst (v := iI 0) hx hb dX12_readDoes_90 (by decide +kernel) ?_
        exact ret _ (0, z62, fr63, z64, z65, fr66, fr67, fr68, fy69, z70, ff76) _ _ _ _ _ [3, 0, 1, 2, 4] dX12_readDoes_91 (by decide +kernel) ⟨rfl, (show (0 : Int) ≤ 0 from by decide), (show (0 : Int) ≤ 1 from by decide), z62_a, z62_b, z64_a, z64_b, z65_a, z65_b, z70_a, z70_b, ff76_h, (show 0 ≤ (z62 - x3) from by omega), (show 0 ≤ ((((z62 - x3) - z64) + 4) - 0) from by omega)⟩ w (by decide) rfl
      · replace c_79 : ¬ z75 = 0 := fun h => c_79 ((iz_eq (Int.le_trans (by decide) z75_a) (Int.le_trans z75_b (by decide))).mpr h)
        refine lv_aload_n hx hb dX12_readDoes_62 rfl (lv_at hl 0 rfl) ?_
        refine r_get (v := .ref a20) M w 3 41 clX12 rfl (by decide) G1504 rfl rfl dX12_readDoes_63 ?_
        refine lv_iload_n hx hb dX12_readDoes_66 rfl (lv_at hl 1 rfl) ?_
        refine r_iald (v := iI (ff76 x0)) M w 4 rfl (iI_in (by omega) (by omega) (by decide)) (cI_at (by omega) (by omega)) dX12_readDoes_67 ?_
        have hh80 : (-2147483648) ≤ (ff76 x0) ∧ (ff76 x0) ≤ 2147483647 := ff76_h.1 x0
        refine lv_iconst (v := iI 1) hx hb dX12_readDoes_68 (by decide +kernel) ?_
        refine lv_icmp_eq (tgt := 86) hx hb dX12_readDoes_69 (by decide) (fun c_81 => ?_) (fun c_81 => ?_)
        · replace c_81 := (iI_eq (by omega) (by omega) (by decide) (by decide)).mp c_81
          refine lv_iconst (v := iI 1) hx hb dX12_readDoes_86 (by decide +kernel) ?_
          refine lv_goto (tgt := 91) hx hb dX12_readDoes_87 (by decide) ?_
          exact ret _ (1, z62, fr63, z64, z65, fr66, fr67, fr68, fy69, z70, ff76) _ _ _ _ _ [3, 0, 1, 2, 4] dX12_readDoes_91 (by decide +kernel) ⟨rfl, (show (0 : Int) ≤ 1 from by decide), (show (1 : Int) ≤ 1 from by decide), z62_a, z62_b, z64_a, z64_b, z65_a, z65_b, z70_a, z70_b, ff76_h, (show 0 ≤ (z62 - x3) from by omega), (show 0 ≤ ((((z62 - x3) - z64) + 4) - 1) from by omega)⟩ w (by decide) rfl
        · replace c_81 : ¬ (ff76 x0) = 1 := fun h => c_81 ((iI_eq (by omega) (by omega) (by decide) (by decide)).mpr h)
          refine lv_aload_n hx hb dX12_readDoes_72 rfl (lv_at hl 0 rfl) ?_
          refine lv_iload_n hx hb dX12_readDoes_73 rfl (lv_at hl 1 rfl) ?_
          refine lv_iconst (v := iI 3) hx hb dX12_readDoes_74 (by decide +kernel) ?_
          refine r_iadd (v := iI (x0 + 3)) M (iI_add _ _) dX12_readDoes_75 ?_
          refine lv_aload_n hx hb dX12_readDoes_76 rfl (lv_at hl 0 rfl) ?_
          refine k_I (ce := 0) (sl := 0) (rest := [.int (iI (x0 + 3)), .ref a0]) (wr := [(a20, .inl (T 0, 160, .inl (cI ff76)))]) (r_V (f := 3) [3, 0, 1, 2] M w V_HookedCityModel_370 G1989 G104 (c104_X12_readPersonName l D T _ a0 r0 a1 x1 x2 r1 z62 fr63 z64 z65 fr66 fr67 fr68 fy69 z70 a2 a3 a4 a5 a6 a7 a8 a9 a10 a11 x7 a12 a13 a14 a15 x8 r6 r7 a16 r8 r9 a17 a18 x9 a19 x10 r10 a20 a21 x11 r11 a22 x12 x13 x14 x15 f0 f1 h0 x1_a x1_b x2_a x2_b z62_a z62_b z64_a z64_b z65_a z65_b z70_a z70_b x7_a x7_b x8_a x8_b x9_a x9_b x10_a x10_b x11_a x11_b x12_a x12_b x13_a x13_b x14_a x14_b x15_a x15_b f1_h) 3 clX12 rfl rfl (by decide) rfl hl.1 rfl (Nat.le_of_ble_eq_true rfl) dX12_readDoes_77 (by decide) (by decide) (by decide) (by decide)) w [3, 0, 1, 2] [4] rfl rfl (by decide) (by decide) rfl rfl (fun v u H locs hp w => ?_)
          obtain ⟨z82, z83, fr84, z85, z86, fr87, fr88, fr89, fy90, z91⟩ := u
          have hv : iI z82 = v := hp.1
          subst hv
          have z82_a : 0 ≤ z82 := hp.2.1
          have z82_b : z82 ≤ 1 := hp.2.2.1
          have z83_a : 0 ≤ z83 := hp.2.2.2.1
          have z83_b : z83 ≤ 940 := hp.2.2.2.2.1
          have z85_a : 0 ≤ z85 := hp.2.2.2.2.2.1
          have z85_b : z85 ≤ 4 := hp.2.2.2.2.2.2.1
          have z86_a : (-2147483648) ≤ z86 := hp.2.2.2.2.2.2.2.1
          have z86_b : z86 ≤ 2147483647 := hp.2.2.2.2.2.2.2.2.1
          have z91_a : (-2147483648) ≤ z91 := hp.2.2.2.2.2.2.2.2.2.1
          have z91_b : z91 ≤ 2147483647 := hp.2.2.2.2.2.2.2.2.2.2.1
          have ee92 : 0 ≤ (z83 - z62) := hp.2.2.2.2.2.2.2.2.2.2.2.1
          have ee93 : 0 ≤ ((((z83 - z62) - z85) + 4) - z82) := hp.2.2.2.2.2.2.2.2.2.2.2.2.1
          have ee94 : 0 ≤ ((z91 + 4294967296) - (z82 * 4294967296)) := hp.2.2.2.2.2.2.2.2.2.2.2.2.2.1
          have ee95 : 0 ≤ (((8 - z91) + 4294967296) - (z82 * 4294967296)) := hp.2.2.2.2.2.2.2.2.2.2.2.2.2.2
          have w : WD D A s.heap [(a20, .inl (T 0, 160, .inl (cI ff76))), (a0, .inr (11, [.int r0, .ref a1, .int (iI x1), .int (iI x2), .int r1, .int (iI z83), .int fr84, .int (iI z85), .int (iI z86), .int fr87, .int fr88, .int fr89, .long fy90, .int (iI z91), .ref a2, .ref a3, .ref a4, .ref a5, .ref a6, .ref a7, .ref a8, .ref a9, .ref a10, .ref a11, .int (iI x7), .ref a12, .ref a13, .ref a14, .ref a15, .int (iI x8), .int r6, .int r7, .ref a16, .int r8, .int r9, .ref a17, .ref a18, .int (iI x9), .ref a19, .int (iI x10), .int r10, .ref a20, .ref a21, .int (iI x11), .int r11, .ref a22, .int (iI x12), .int (iI x13), .int (iI x14), .int (iI x15)])), (a1, .inl (T 0, 940, .inl f0)), (a2, .inl (T 0, 329, .inl (cI f1))), (a7, .inl (T 1, 12, .inr (.inl h0)))] H locs := w
          refine k_I (ce := 0) (sl := 0) (rest := []) (wr := [(a1, .inl (T 0, 940, .inl f0)), (a2, .inl (T 0, 329, .inl (cI f1))), (a7, .inl (T 1, 12, .inr (.inl h0)))]) (r_V (f := 0) [1, 0] M w V_HookedCityModel_373 G1993 G105 (c105_X12_keep l D T _ a0 (x0 + 3) z82 r0 a1 x1 x2 r1 z83 fr84 z85 z86 fr87 fr88 fr89 fy90 z91 a2 a3 a4 a5 a6 a7 a8 a9 a10 a11 x7 a12 a13 a14 a15 x8 r6 r7 a16 r8 r9 a17 a18 x9 a19 x10 r10 a20 a21 x11 r11 a22 x12 x13 x14 x15 ff76 (by omega) (by omega) z82_a z82_b x1_a x1_b x2_a x2_b z83_a z83_b z85_a z85_b z86_a z86_b z91_a z91_b x7_a x7_b x8_a x8_b x9_a x9_b x10_a x10_b x11_a x11_b x12_a x12_b x13_a x13_b x14_a x14_b x15_a x15_b ff76_h (fun h => ln_q ff76_h (n := x11) (by omega) (by omega) (by omega) (by omega) (by omega))) 1 clX12 rfl rfl (by decide) rfl hl.1 rfl (Nat.le_of_ble_eq_true rfl) dX12_readDoes_80 (by decide) (by decide) (by decide) (by decide)) w [1, 0] [2, 3, 4] rfl rfl (by decide) (by decide) rfl rfl (fun v u H locs hp w => ?_)
          obtain ⟨z96, ff97⟩ := u
          have hv : iI z96 = v := hp.1
          subst hv
          have z96_a : 0 ≤ z96 := hp.2.1
          have z96_b : z96 ≤ 1 := hp.2.2.1
          have ff97_h : lnI ff97 := hp.2.2.2.1
          have ee98 : 0 ≤ (z82 - z96) := hp.2.2.2.2.1
          have ee99 : 0 ≤ (z96 - z82) := hp.2.2.2.2.2
          have w : WD D A s.heap [(a1, .inl (T 0, 940, .inl f0)), (a2, .inl (T 0, 329, .inl (cI f1))), (a7, .inl (T 1, 12, .inr (.inl h0))), (a0, .inr (11, [.int r0, .ref a1, .int (iI x1), .int (iI x2), .int r1, .int (iI z83), .int fr84, .int (iI z85), .int (iI z86), .int fr87, .int fr88, .int fr89, .long fy90, .int (iI z91), .ref a2, .ref a3, .ref a4, .ref a5, .ref a6, .ref a7, .ref a8, .ref a9, .ref a10, .ref a11, .int (iI x7), .ref a12, .ref a13, .ref a14, .ref a15, .int (iI x8), .int r6, .int r7, .ref a16, .int r8, .int r9, .ref a17, .ref a18, .int (iI x9), .ref a19, .int (iI x10), .int r10, .ref a20, .ref a21, .int (iI x11), .int r11, .ref a22, .int (iI x12), .int (iI x13), .int (iI x14), .int (iI x15)])), (a20, .inl (T 0, 160, .inl (cI ff97)))] H locs := w
          refine lv_if_eq (tgt := 90) hx hb dX12_readDoes_83 (by decide) (fun c_100 => ?_) (fun c_100 => ?_)
          · replace c_100 := (iz_eq (Int.le_trans (by decide) z96_a) (Int.le_trans z96_b (by decide))).mp c_100
            refine lv_iconst (v := iI 0) hx hb dX12_readDoes_90 (by decide +kernel) ?_
            exact ret _ (0, z83, fr84, z85, z86, fr87, fr88, fr89, fy90, z91, ff97) _ _ _ _ _ [3, 0, 1, 2, 4] dX12_readDoes_91 (by decide +kernel) ⟨rfl, (show (0 : Int) ≤ 0 from by decide), (show (0 : Int) ≤ 1 from by decide), z83_a, z83_b, z85_a, z85_b, z86_a, z86_b, z91_a, z91_b, ff97_h, (show 0 ≤ (z83 - x3) from by omega), (show 0 ≤ ((((z83 - x3) - z85) + 4) - 0) from by omega)⟩ w (by decide) rfl
          · replace c_100 : ¬ z96 = 0 := fun h => c_100 ((iz_eq (Int.le_trans (by decide) z96_a) (Int.le_trans z96_b (by decide))).mpr h)
            refine lv_iconst (v := iI 1) hx hb dX12_readDoes_86 (by decide +kernel) ?_
            refine lv_goto (tgt := 91) hx hb dX12_readDoes_87 (by decide) ?_
            exact ret _ (1, z83, fr84, z85, z86, fr87, fr88, fr89, fy90, z91, ff97) _ _ _ _ _ [3, 0, 1, 2, 4] dX12_readDoes_91 (by decide +kernel) ⟨rfl, (show (0 : Int) ≤ 1 from by decide), (show (1 : Int) ≤ 1 from by decide), z83_a, z83_b, z85_a, z85_b, z86_a, z86_b, z91_a, z91_b, ff97_h, (show 0 ≤ (z83 - x3) from by omega), (show 0 ≤ ((((z83 - x3) - z85) + 4) - 1) from by omega)⟩ w (by decide) rfl
  · replace c_2 := (iz_eq (Int.le_trans (by decide) z1_a) (Int.le_trans z1_b (by decide))).mp c_2
    refine lv_aload_n hx hb dX12_readDoes_9 rfl (lv_at hl 0 rfl) ?_
    refine lv_bipush (v := iI 12) hx hb dX12_readDoes_10 (by decide +kernel) ?_
    refine k_I (ce := 0) (sl := 0) (rest := []) (wr := [(a1, .inl (T 0, 940, .inl f0)), (a2, .inl (T 0, 329, .inl (cI f1))), (a7, .inl (T 1, 12, .inr (.inl h0))), (a20, .inl (T 0, 160, .inl (cI f2)))]) (r_V (f := 2) [4] M w V_HookedCityModel_183 G1649 G52 (c15_X12_isWord l D T _ a0 12 r0 a1 x1 x2 r1 x3 r2 x4 x5 r3 r4 r5 y0 x6 a2 a3 a4 a5 a6 a7 a8 a9 a10 a11 x7 a12 a13 a14 a15 x8 r6 r7 a16 r8 r9 a17 a18 x9 a19 x10 r10 a20 a21 x11 r11 a22 x12 x13 x14 x15 (by decide) (by decide) x1_a x1_b x2_a x2_b x3_a x3_b x4_a x4_b x5_a x5_b x6_a x6_b x7_a x7_b x8_a x8_b x9_a x9_b x10_a x10_b x11_a x11_b x12_a x12_b x13_a x13_b x14_a x14_b x15_a x15_b) 4 clX12 rfl rfl (by decide) rfl hl.1 rfl (Nat.le_of_ble_eq_true rfl) dX12_readDoes_12 (by decide) (by decide) (by decide) (by decide)) w [4] [0, 1, 2, 3] rfl rfl (by decide) (by decide) rfl rfl (fun v z101 H locs hp w => ?_)
    have hv : iI z101 = v := hp.1
    subst hv
    have z101_a : 0 ≤ z101 := hp.2.1
    have z101_b : z101 ≤ 1 := hp.2.2
    have w : WD D A s.heap [(a1, .inl (T 0, 940, .inl f0)), (a2, .inl (T 0, 329, .inl (cI f1))), (a7, .inl (T 1, 12, .inr (.inl h0))), (a20, .inl (T 0, 160, .inl (cI f2))), (a0, .inr (11, [.int r0, .ref a1, .int (iI x1), .int (iI x2), .int r1, .int (iI x3), .int r2, .int (iI x4), .int (iI x5), .int r3, .int r4, .int r5, .long y0, .int (iI x6), .ref a2, .ref a3, .ref a4, .ref a5, .ref a6, .ref a7, .ref a8, .ref a9, .ref a10, .ref a11, .int (iI x7), .ref a12, .ref a13, .ref a14, .ref a15, .int (iI x8), .int r6, .int r7, .ref a16, .int r8, .int r9, .ref a17, .ref a18, .int (iI x9), .ref a19, .int (iI x10), .int r10, .ref a20, .ref a21, .int (iI x11), .int r11, .ref a22, .int (iI x12), .int (iI x13), .int (iI x14), .int (iI x15)]))] H locs := w
    refine lv_if_ne (tgt := 24) hx hb dX12_readDoes_15 (by decide) (fun c_102 => ?_) (fun c_102 => ?_)
    · replace c_102 : ¬ z101 = 0 := fun h => c_102 ((iz_eq (Int.le_trans (by decide) z101_a) (Int.le_trans z101_b (by decide))).mpr h)
      refine lv_aload_n hx hb dX12_readDoes_24 rfl (lv_at hl 0 rfl) ?_
      refine r_get (v := .ref a20) M w 4 41 clX12 rfl (by decide) G1504 rfl rfl dX12_readDoes_25 ?_
      refine lv_iload_n hx hb dX12_readDoes_28 rfl (lv_at hl 1 rfl) ?_
      refine lv_aload_n hx hb dX12_readDoes_29 rfl (lv_at hl 0 rfl) ?_
      refine lv_bipush (v := iI 11) hx hb dX12_readDoes_30 (by decide +kernel) ?_
      refine k_I (ce := 0) (sl := 0) (rest := [.int (iI x0), .ref a20]) (wr := [(a1, .inl (T 0, 940, .inl f0)), (a2, .inl (T 0, 329, .inl (cI f1))), (a7, .inl (T 1, 12, .inr (.inl h0))), (a20, .inl (T 0, 160, .inl (cI f2)))]) (r_V (f := 2) [4] M w V_HookedCityModel_183 G1649 G52 (c15_X12_isWord l D T _ a0 11 r0 a1 x1 x2 r1 x3 r2 x4 x5 r3 r4 r5 y0 x6 a2 a3 a4 a5 a6 a7 a8 a9 a10 a11 x7 a12 a13 a14 a15 x8 r6 r7 a16 r8 r9 a17 a18 x9 a19 x10 r10 a20 a21 x11 r11 a22 x12 x13 x14 x15 (by decide) (by decide) x1_a x1_b x2_a x2_b x3_a x3_b x4_a x4_b x5_a x5_b x6_a x6_b x7_a x7_b x8_a x8_b x9_a x9_b x10_a x10_b x11_a x11_b x12_a x12_b x13_a x13_b x14_a x14_b x15_a x15_b) 4 clX12 rfl rfl (by decide) rfl hl.1 rfl (Nat.le_of_ble_eq_true rfl) dX12_readDoes_32 (by decide) (by decide) (by decide) (by decide)) w [4] [0, 1, 2, 3] rfl rfl (by decide) (by decide) rfl rfl (fun v z103 H locs hp w => ?_)
      have hv : iI z103 = v := hp.1
      subst hv
      have z103_a : 0 ≤ z103 := hp.2.1
      have z103_b : z103 ≤ 1 := hp.2.2
      have w : WD D A s.heap [(a1, .inl (T 0, 940, .inl f0)), (a2, .inl (T 0, 329, .inl (cI f1))), (a7, .inl (T 1, 12, .inr (.inl h0))), (a20, .inl (T 0, 160, .inl (cI f2))), (a0, .inr (11, [.int r0, .ref a1, .int (iI x1), .int (iI x2), .int r1, .int (iI x3), .int r2, .int (iI x4), .int (iI x5), .int r3, .int r4, .int r5, .long y0, .int (iI x6), .ref a2, .ref a3, .ref a4, .ref a5, .ref a6, .ref a7, .ref a8, .ref a9, .ref a10, .ref a11, .int (iI x7), .ref a12, .ref a13, .ref a14, .ref a15, .int (iI x8), .int r6, .int r7, .ref a16, .int r8, .int r9, .ref a17, .ref a18, .int (iI x9), .ref a19, .int (iI x10), .int r10, .ref a20, .ref a21, .int (iI x11), .int r11, .ref a22, .int (iI x12), .int (iI x13), .int (iI x14), .int (iI x15)]))] H locs := w
      refine lv_if_eq (tgt := 42) hx hb dX12_readDoes_35 (by decide) (fun c_104 => ?_) (fun c_104 => ?_)
      · replace c_104 := (iz_eq (Int.le_trans (by decide) z103_a) (Int.le_trans z103_b (by decide))).mp c_104
        refine lv_iconst (v := iI 1) hx hb dX12_readDoes_42 (by decide +kernel) ?_
        refine r_iast (ws' := [(a1, .inl (T 0, 940, .inl f0)), (a2, .inl (T 0, 329, .inl (cI f1))), (a7, .inl (T 1, 12, .inr (.inl h0))), (a20, .inl (T 0, 160, .inl (cI (upz f2 x0 1)))), (a0, .inr (11, [.int r0, .ref a1, .int (iI x1), .int (iI x2), .int r1, .int (iI x3), .int r2, .int (iI x4), .int (iI x5), .int r3, .int r4, .int r5, .long y0, .int (iI x6), .ref a2, .ref a3, .ref a4, .ref a5, .ref a6, .ref a7, .ref a8, .ref a9, .ref a10, .ref a11, .int (iI x7), .ref a12, .ref a13, .ref a14, .ref a15, .int (iI x8), .int r6, .int r7, .ref a16, .int r8, .int r9, .ref a17, .ref a18, .int (iI x9), .ref a19, .int (iI x10), .int r10, .ref a20, .ref a21, .int (iI x11), .int r11, .ref a22, .int (iI x12), .int (iI x13), .int (iI x14), .int (iI x15)]))]) M w 3 rfl (iI_in (by omega) (by omega) (by decide)) (by rw [cI_up (by omega) (by omega)]; rfl) dX12_readDoes_43 (fun H locs w => ?_)
        refine lv_aload_n hx hb dX12_readDoes_44 rfl (lv_at hl 0 rfl) ?_
        refine k_V (ce := 0) (sl := 0) (rest := []) (wr := [(a2, .inl (T 0, 329, .inl (cI f1))), (a7, .inl (T 1, 12, .inr (.inl h0))), (a20, .inl (T 0, 160, .inl (cI (upz f2 x0 1))))]) (r_V (f := 1) [4, 0] M w V_HookedCityModel_82 G1629 G49 (c12_X12_go l D T _ a0 r0 a1 x1 x2 r1 x3 r2 x4 x5 r3 r4 r5 y0 x6 a2 a3 a4 a5 a6 a7 a8 a9 a10 a11 x7 a12 a13 a14 a15 x8 r6 r7 a16 r8 r9 a17 a18 x9 a19 x10 r10 a20 a21 x11 r11 a22 x12 x13 x14 x15 f0 x1_a x1_b x2_a x2_b x3_a x3_b x4_a x4_b x5_a x5_b x6_a x6_b x7_a x7_b x8_a x8_b x9_a x9_b x10_a x10_b x11_a x11_b x12_a x12_b x13_a x13_b x14_a x14_b x15_a x15_b) 4 clX12 rfl rfl (by decide) rfl hl.1 rfl (Nat.le_of_ble_eq_true rfl) dX12_readDoes_45 (by decide) (by decide) (by decide) (by decide)) w [4, 0] [1, 2, 3] rfl rfl (by decide) (by decide) rfl rfl (fun u H locs hp w => ?_)
        obtain ⟨z105, fr106, z107, z108, fr109, fy110⟩ := u
        have z105_a : 0 ≤ z105 := hp.1
        have z105_b : z105 ≤ 940 := hp.2.1
        have z107_a : 0 ≤ z107 := hp.2.2.1
        have z107_b : z107 ≤ 4 := hp.2.2.2.1
        have z108_a : (-2147483648) ≤ z108 := hp.2.2.2.2.1
        have z108_b : z108 ≤ 2147483647 := hp.2.2.2.2.2.1
        have ee111 : 0 ≤ (z105 - x3) := hp.2.2.2.2.2.2.1
        have ee112 : 0 ≤ (((z105 - x3) - z107) + 3) := hp.2.2.2.2.2.2.2
        have w : WD D A s.heap [(a2, .inl (T 0, 329, .inl (cI f1))), (a7, .inl (T 1, 12, .inr (.inl h0))), (a20, .inl (T 0, 160, .inl (cI (upz f2 x0 1)))), (a0, .inr (11, [.int r0, .ref a1, .int (iI x1), .int (iI x2), .int r1, .int (iI z105), .int fr106, .int (iI z107), .int (iI z108), .int fr109, .int r4, .int r5, .long fy110, .int (iI x6), .ref a2, .ref a3, .ref a4, .ref a5, .ref a6, .ref a7, .ref a8, .ref a9, .ref a10, .ref a11, .int (iI x7), .ref a12, .ref a13, .ref a14, .ref a15, .int (iI x8), .int r6, .int r7, .ref a16, .int r8, .int r9, .ref a17, .ref a18, .int (iI x9), .ref a19, .int (iI x10), .int r10, .ref a20, .ref a21, .int (iI x11), .int r11, .ref a22, .int (iI x12), .int (iI x13), .int (iI x14), .int (iI x15)])), (a1, .inl (T 0, 940, .inl f0))] H locs := w
        refine lv_aload_n hx hb dX12_readDoes_48 rfl (lv_at hl 0 rfl) ?_
        refine lv_iload_n hx hb dX12_readDoes_49 rfl (lv_at hl 1 rfl) ?_
        refine lv_iconst (v := iI 2) hx hb dX12_readDoes_50 (by decide +kernel) ?_
        refine r_iadd (v := iI (x0 + 2)) M (iI_add _ _) dX12_readDoes_51 ?_
        refine lv_aload_n hx hb dX12_readDoes_52 rfl (lv_at hl 0 rfl) ?_
        refine k_I (ce := 0) (sl := 0) (rest := [.int (iI (x0 + 2)), .ref a0]) (wr := [(a20, .inl (T 0, 160, .inl (cI (upz f2 x0 1))))]) (r_V (f := 3) [3, 4, 0, 1] M w V_HookedCityModel_370 G1989 G104 (c104_X12_readPersonName l D T _ a0 r0 a1 x1 x2 r1 z105 fr106 z107 z108 fr109 r4 r5 fy110 x6 a2 a3 a4 a5 a6 a7 a8 a9 a10 a11 x7 a12 a13 a14 a15 x8 r6 r7 a16 r8 r9 a17 a18 x9 a19 x10 r10 a20 a21 x11 r11 a22 x12 x13 x14 x15 f0 f1 h0 x1_a x1_b x2_a x2_b z105_a z105_b z107_a z107_b z108_a z108_b x6_a x6_b x7_a x7_b x8_a x8_b x9_a x9_b x10_a x10_b x11_a x11_b x12_a x12_b x13_a x13_b x14_a x14_b x15_a x15_b f1_h) 3 clX12 rfl rfl (by decide) rfl hl.1 rfl (Nat.le_of_ble_eq_true rfl) dX12_readDoes_53 (by decide) (by decide) (by decide) (by decide)) w [3, 4, 0, 1] [2] rfl rfl (by decide) (by decide) rfl rfl (fun v u H locs hp w => ?_)
        obtain ⟨z113, z114, fr115, z116, z117, fr118, fr119, fr120, fy121, z122⟩ := u
        have hv : iI z113 = v := hp.1
        subst hv
        have z113_a : 0 ≤ z113 := hp.2.1
        have z113_b : z113 ≤ 1 := hp.2.2.1
        have z114_a : 0 ≤ z114 := hp.2.2.2.1
        have z114_b : z114 ≤ 940 := hp.2.2.2.2.1
        have z116_a : 0 ≤ z116 := hp.2.2.2.2.2.1
        have z116_b : z116 ≤ 4 := hp.2.2.2.2.2.2.1
        have z117_a : (-2147483648) ≤ z117 := hp.2.2.2.2.2.2.2.1
        have z117_b : z117 ≤ 2147483647 := hp.2.2.2.2.2.2.2.2.1
        have z122_a : (-2147483648) ≤ z122 := hp.2.2.2.2.2.2.2.2.2.1
        have z122_b : z122 ≤ 2147483647 := hp.2.2.2.2.2.2.2.2.2.2.1
        have ee123 : 0 ≤ (z114 - z105) := hp.2.2.2.2.2.2.2.2.2.2.2.1
        have ee124 : 0 ≤ ((((z114 - z105) - z116) + 4) - z113) := hp.2.2.2.2.2.2.2.2.2.2.2.2.1
        have ee125 : 0 ≤ ((z122 + 4294967296) - (z113 * 4294967296)) := hp.2.2.2.2.2.2.2.2.2.2.2.2.2.1
        have ee126 : 0 ≤ (((8 - z122) + 4294967296) - (z113 * 4294967296)) := hp.2.2.2.2.2.2.2.2.2.2.2.2.2.2
        have w : WD D A s.heap [(a20, .inl (T 0, 160, .inl (cI (upz f2 x0 1)))), (a0, .inr (11, [.int r0, .ref a1, .int (iI x1), .int (iI x2), .int r1, .int (iI z114), .int fr115, .int (iI z116), .int (iI z117), .int fr118, .int fr119, .int fr120, .long fy121, .int (iI z122), .ref a2, .ref a3, .ref a4, .ref a5, .ref a6, .ref a7, .ref a8, .ref a9, .ref a10, .ref a11, .int (iI x7), .ref a12, .ref a13, .ref a14, .ref a15, .int (iI x8), .int r6, .int r7, .ref a16, .int r8, .int r9, .ref a17, .ref a18, .int (iI x9), .ref a19, .int (iI x10), .int r10, .ref a20, .ref a21, .int (iI x11), .int r11, .ref a22, .int (iI x12), .int (iI x13), .int (iI x14), .int (iI x15)])), (a1, .inl (T 0, 940, .inl f0)), (a2, .inl (T 0, 329, .inl (cI f1))), (a7, .inl (T 1, 12, .inr (.inl h0)))] H locs := w
        refine k_I (ce := 0) (sl := 0) (rest := []) (wr := [(a1, .inl (T 0, 940, .inl f0)), (a2, .inl (T 0, 329, .inl (cI f1))), (a7, .inl (T 1, 12, .inr (.inl h0)))]) (r_V (f := 0) [1, 0] M w V_HookedCityModel_373 G1993 G105 (c105_X12_keep l D T _ a0 (x0 + 2) z113 r0 a1 x1 x2 r1 z114 fr115 z116 z117 fr118 fr119 fr120 fy121 z122 a2 a3 a4 a5 a6 a7 a8 a9 a10 a11 x7 a12 a13 a14 a15 x8 r6 r7 a16 r8 r9 a17 a18 x9 a19 x10 r10 a20 a21 x11 r11 a22 x12 x13 x14 x15 (upz f2 x0 1) (by omega) (by omega) z113_a z113_b x1_a x1_b x2_a x2_b z114_a z114_b z116_a z116_b z117_a z117_b z122_a z122_b x7_a x7_b x8_a x8_b x9_a x9_b x10_a x10_b x11_a x11_b x12_a x12_b x13_a x13_b x14_a x14_b x15_a x15_b (ln_op f2_h (n := x11) (by omega) (by omega) (by omega) (by decide) (by decide) pp_x) (fun h => ln_p (ln_op f2_h (n := x11) (by omega) (by omega) (by omega) (by decide) (by decide) pp_x) (n := x11) (by omega) (by omega) (by omega) (by omega) (by omega))) 1 clX12 rfl rfl (by decide) rfl hl.1 rfl (Nat.le_of_ble_eq_true rfl) dX12_readDoes_56 (by decide) (by decide) (by decide) (by decide)) w [1, 0] [2, 3, 4] rfl rfl (by decide) (by decide) rfl rfl (fun v u H locs hp w => ?_)
        obtain ⟨z127, ff128⟩ := u
        have hv : iI z127 = v := hp.1
        subst hv
        have z127_a : 0 ≤ z127 := hp.2.1
        have z127_b : z127 ≤ 1 := hp.2.2.1
        have ff128_h : lnI ff128 := hp.2.2.2.1
        have ee129 : 0 ≤ (z113 - z127) := hp.2.2.2.2.1
        have ee130 : 0 ≤ (z127 - z113) := hp.2.2.2.2.2
        have w : WD D A s.heap [(a1, .inl (T 0, 940, .inl f0)), (a2, .inl (T 0, 329, .inl (cI f1))), (a7, .inl (T 1, 12, .inr (.inl h0))), (a0, .inr (11, [.int r0, .ref a1, .int (iI x1), .int (iI x2), .int r1, .int (iI z114), .int fr115, .int (iI z116), .int (iI z117), .int fr118, .int fr119, .int fr120, .long fy121, .int (iI z122), .ref a2, .ref a3, .ref a4, .ref a5, .ref a6, .ref a7, .ref a8, .ref a9, .ref a10, .ref a11, .int (iI x7), .ref a12, .ref a13, .ref a14, .ref a15, .int (iI x8), .int r6, .int r7, .ref a16, .int r8, .int r9, .ref a17, .ref a18, .int (iI x9), .ref a19, .int (iI x10), .int r10, .ref a20, .ref a21, .int (iI x11), .int r11, .ref a22, .int (iI x12), .int (iI x13), .int (iI x14), .int (iI x15)])), (a20, .inl (T 0, 160, .inl (cI ff128)))] H locs := w
        refine lv_if_eq (tgt := 90) hx hb dX12_readDoes_59 (by decide) (fun c_131 => ?_) (fun c_131 => ?_)
        · replace c_131 := (iz_eq (Int.le_trans (by decide) z127_a) (Int.le_trans z127_b (by decide))).mp c_131
          refine lv_iconst (v := iI 0) hx hb dX12_readDoes_90 (by decide +kernel) ?_
          exact ret _ (0, z114, fr115, z116, z117, fr118, fr119, fr120, fy121, z122, ff128) _ _ _ _ _ [3, 0, 1, 2, 4] dX12_readDoes_91 (by decide +kernel) ⟨rfl, (show (0 : Int) ≤ 0 from by decide), (show (0 : Int) ≤ 1 from by decide), z114_a, z114_b, z116_a, z116_b, z117_a, z117_b, z122_a, z122_b, ff128_h, (show 0 ≤ (z114 - x3) from by omega), (show 0 ≤ ((((z114 - x3) - z116) + 4) - 0) from by omega)⟩ w (by decide) rfl
        · replace c_131 : ¬ z127 = 0 := fun h => c_131 ((iz_eq (Int.le_trans (by decide) z127_a) (Int.le_trans z127_b (by decide))).mpr h)
          refine lv_aload_n hx hb dX12_readDoes_62 rfl (lv_at hl 0 rfl) ?_
          refine r_get (v := .ref a20) M w 3 41 clX12 rfl (by decide) G1504 rfl rfl dX12_readDoes_63 ?_
          refine lv_iload_n hx hb dX12_readDoes_66 rfl (lv_at hl 1 rfl) ?_
          refine r_iald (v := iI (ff128 x0)) M w 4 rfl (iI_in (by omega) (by omega) (by decide)) (cI_at (by omega) (by omega)) dX12_readDoes_67 ?_
          have hh132 : (-2147483648) ≤ (ff128 x0) ∧ (ff128 x0) ≤ 2147483647 := ff128_h.1 x0
          refine lv_iconst (v := iI 1) hx hb dX12_readDoes_68 (by decide +kernel) ?_
          refine lv_icmp_eq (tgt := 86) hx hb dX12_readDoes_69 (by decide) (fun c_133 => ?_) (fun c_133 => ?_)
          · replace c_133 := (iI_eq (by omega) (by omega) (by decide) (by decide)).mp c_133
            refine lv_iconst (v := iI 1) hx hb dX12_readDoes_86 (by decide +kernel) ?_
            refine lv_goto (tgt := 91) hx hb dX12_readDoes_87 (by decide) ?_
            exact ret _ (1, z114, fr115, z116, z117, fr118, fr119, fr120, fy121, z122, ff128) _ _ _ _ _ [3, 0, 1, 2, 4] dX12_readDoes_91 (by decide +kernel) ⟨rfl, (show (0 : Int) ≤ 1 from by decide), (show (1 : Int) ≤ 1 from by decide), z114_a, z114_b, z116_a, z116_b, z117_a, z117_b, z122_a, z122_b, ff128_h, (show 0 ≤ (z114 - x3) from by omega), (show 0 ≤ ((((z114 - x3) - z116) + 4) - 1) from by omega)⟩ w (by decide) rfl
          · replace c_133 : ¬ (ff128 x0) = 1 := fun h => c_133 ((iI_eq (by omega) (by omega) (by decide) (by decide)).mpr h)
            refine lv_aload_n hx hb dX12_readDoes_72 rfl (lv_at hl 0 rfl) ?_
            refine lv_iload_n hx hb dX12_readDoes_73 rfl (lv_at hl 1 rfl) ?_
            refine lv_iconst (v := iI 3) hx hb dX12_readDoes_74 (by decide +kernel) ?_
            refine r_iadd (v := iI (x0 + 3)) M (iI_add _ _) dX12_readDoes_75 ?_
            refine lv_aload_n hx hb dX12_readDoes_76 rfl (lv_at hl 0 rfl) ?_
            refine k_I (ce := 0) (sl := 0) (rest := [.int (iI (x0 + 3)), .ref a0]) (wr := [(a20, .inl (T 0, 160, .inl (cI ff128)))]) (r_V (f := 3) [3, 0, 1, 2] M w V_HookedCityModel_370 G1989 G104 (c104_X12_readPersonName l D T _ a0 r0 a1 x1 x2 r1 z114 fr115 z116 z117 fr118 fr119 fr120 fy121 z122 a2 a3 a4 a5 a6 a7 a8 a9 a10 a11 x7 a12 a13 a14 a15 x8 r6 r7 a16 r8 r9 a17 a18 x9 a19 x10 r10 a20 a21 x11 r11 a22 x12 x13 x14 x15 f0 f1 h0 x1_a x1_b x2_a x2_b z114_a z114_b z116_a z116_b z117_a z117_b z122_a z122_b x7_a x7_b x8_a x8_b x9_a x9_b x10_a x10_b x11_a x11_b x12_a x12_b x13_a x13_b x14_a x14_b x15_a x15_b f1_h) 3 clX12 rfl rfl (by decide) rfl hl.1 rfl (Nat.le_of_ble_eq_true rfl) dX12_readDoes_77 (by decide) (by decide) (by decide) (by decide)) w [3, 0, 1, 2] [4] rfl rfl (by decide) (by decide) rfl rfl (fun v u H locs hp w => ?_)
            obtain ⟨z134, z135, fr136, z137, z138, fr139, fr140, fr141, fy142, z143⟩ := u
            have hv : iI z134 = v := hp.1
            subst hv
            have z134_a : 0 ≤ z134 := hp.2.1
            have z134_b : z134 ≤ 1 := hp.2.2.1
            have z135_a : 0 ≤ z135 := hp.2.2.2.1
            have z135_b : z135 ≤ 940 := hp.2.2.2.2.1
            have z137_a : 0 ≤ z137 := hp.2.2.2.2.2.1
            have z137_b : z137 ≤ 4 := hp.2.2.2.2.2.2.1
            have z138_a : (-2147483648) ≤ z138 := hp.2.2.2.2.2.2.2.1
            have z138_b : z138 ≤ 2147483647 := hp.2.2.2.2.2.2.2.2.1
            have z143_a : (-2147483648) ≤ z143 := hp.2.2.2.2.2.2.2.2.2.1
            have z143_b : z143 ≤ 2147483647 := hp.2.2.2.2.2.2.2.2.2.2.1
            have ee144 : 0 ≤ (z135 - z114) := hp.2.2.2.2.2.2.2.2.2.2.2.1
            have ee145 : 0 ≤ ((((z135 - z114) - z137) + 4) - z134) := hp.2.2.2.2.2.2.2.2.2.2.2.2.1
            have ee146 : 0 ≤ ((z143 + 4294967296) - (z134 * 4294967296)) := hp.2.2.2.2.2.2.2.2.2.2.2.2.2.1
            have ee147 : 0 ≤ (((8 - z143) + 4294967296) - (z134 * 4294967296)) := hp.2.2.2.2.2.2.2.2.2.2.2.2.2.2
            have w : WD D A s.heap [(a20, .inl (T 0, 160, .inl (cI ff128))), (a0, .inr (11, [.int r0, .ref a1, .int (iI x1), .int (iI x2), .int r1, .int (iI z135), .int fr136, .int (iI z137), .int (iI z138), .int fr139, .int fr140, .int fr141, .long fy142, .int (iI z143), .ref a2, .ref a3, .ref a4, .ref a5, .ref a6, .ref a7, .ref a8, .ref a9, .ref a10, .ref a11, .int (iI x7), .ref a12, .ref a13, .ref a14, .ref a15, .int (iI x8), .int r6, .int r7, .ref a16, .int r8, .int r9, .ref a17, .ref a18, .int (iI x9), .ref a19, .int (iI x10), .int r10, .ref a20, .ref a21, .int (iI x11), .int r11, .ref a22, .int (iI x12), .int (iI x13), .int (iI x14), .int (iI x15)])), (a1, .inl (T 0, 940, .inl f0)), (a2, .inl (T 0, 329, .inl (cI f1))), (a7, .inl (T 1, 12, .inr (.inl h0)))] H locs := w
            refine k_I (ce := 0) (sl := 0) (rest := []) (wr := [(a1, .inl (T 0, 940, .inl f0)), (a2, .inl (T 0, 329, .inl (cI f1))), (a7, .inl (T 1, 12, .inr (.inl h0)))]) (r_V (f := 0) [1, 0] M w V_HookedCityModel_373 G1993 G105 (c105_X12_keep l D T _ a0 (x0 + 3) z134 r0 a1 x1 x2 r1 z135 fr136 z137 z138 fr139 fr140 fr141 fy142 z143 a2 a3 a4 a5 a6 a7 a8 a9 a10 a11 x7 a12 a13 a14 a15 x8 r6 r7 a16 r8 r9 a17 a18 x9 a19 x10 r10 a20 a21 x11 r11 a22 x12 x13 x14 x15 ff128 (by omega) (by omega) z134_a z134_b x1_a x1_b x2_a x2_b z135_a z135_b z137_a z137_b z138_a z138_b z143_a z143_b x7_a x7_b x8_a x8_b x9_a x9_b x10_a x10_b x11_a x11_b x12_a x12_b x13_a x13_b x14_a x14_b x15_a x15_b ff128_h (fun h => ln_q ff128_h (n := x11) (by omega) (by omega) (by omega) (by omega) (by omega))) 1 clX12 rfl rfl (by decide) rfl hl.1 rfl (Nat.le_of_ble_eq_true rfl) dX12_readDoes_80 (by decide) (by decide) (by decide) (by decide)) w [1, 0] [2, 3, 4] rfl rfl (by decide) (by decide) rfl rfl (fun v u H locs hp w => ?_)
            obtain ⟨z148, ff149⟩ := u
            have hv : iI z148 = v := hp.1
            subst hv
            have z148_a : 0 ≤ z148 := hp.2.1
            have z148_b : z148 ≤ 1 := hp.2.2.1
            have ff149_h : lnI ff149 := hp.2.2.2.1
            have ee150 : 0 ≤ (z134 - z148) := hp.2.2.2.2.1
            have ee151 : 0 ≤ (z148 - z134) := hp.2.2.2.2.2
            have w : WD D A s.heap [(a1, .inl (T 0, 940, .inl f0)), (a2, .inl (T 0, 329, .inl (cI f1))), (a7, .inl (T 1, 12, .inr (.inl h0))), (a0, .inr (11, [.int r0, .ref a1, .int (iI x1), .int (iI x2), .int r1, .int (iI z135), .int fr136, .int (iI z137), .int (iI z138), .int fr139, .int fr140, .int fr141, .long fy142, .int (iI z143), .ref a2, .ref a3, .ref a4, .ref a5, .ref a6, .ref a7, .ref a8, .ref a9, .ref a10, .ref a11, .int (iI x7), .ref a12, .ref a13, .ref a14, .ref a15, .int (iI x8), .int r6, .int r7, .ref a16, .int r8, .int r9, .ref a17, .ref a18, .int (iI x9), .ref a19, .int (iI x10), .int r10, .ref a20, .ref a21, .int (iI x11), .int r11, .ref a22, .int (iI x12), .int (iI x13), .int (iI x14), .int (iI x15)])), (a20, .inl (T 0, 160, .inl (cI ff149)))] H locs := w
            refine lv_if_eq (tgt := 90) hx hb dX12_readDoes_83 (by decide) (fun c_152 => ?_) (fun c_152 => ?_)
            · replace c_152 := (iz_eq (Int.le_trans (by decide) z148_a) (Int.le_trans z148_b (by decide))).mp c_152
              refine lv_iconst (v := iI 0) hx hb dX12_readDoes_90 (by decide +kernel) ?_
              exact ret _ (0, z135, fr136, z137, z138, fr139, fr140, fr141, fy142, z143, ff149) _ _ _ _ _ [3, 0, 1, 2, 4] dX12_readDoes_91 (by decide +kernel) ⟨rfl, (show (0 : Int) ≤ 0 from by decide), (show (0 : Int) ≤ 1 from by decide), z135_a, z135_b, z137_a, z137_b, z138_a, z138_b, z143_a, z143_b, ff149_h, (show 0 ≤ (z135 - x3) from by omega), (show 0 ≤ ((((z135 - x3) - z137) + 4) - 0) from by omega)⟩ w (by decide) rfl
            · replace c_152 : ¬ z148 = 0 := fun h => c_152 ((iz_eq (Int.le_trans (by decide) z148_a) (Int.le_trans z148_b (by decide))).mpr h)
              refine lv_iconst (v := iI 1) hx hb dX12_readDoes_86 (by decide +kernel) ?_
              refine lv_goto (tgt := 91) hx hb dX12_readDoes_87 (by decide) ?_
              exact ret _ (1, z135, fr136, z137, z138, fr139, fr140, fr141, fy142, z143, ff149) _ _ _ _ _ [3, 0, 1, 2, 4] dX12_readDoes_91 (by decide +kernel) ⟨rfl, (show (0 : Int) ≤ 1 from by decide), (show (1 : Int) ≤ 1 from by decide), z135_a, z135_b, z137_a, z137_b, z138_a, z138_b, z143_a, z143_b, ff149_h, (show 0 ≤ (z135 - x3) from by omega), (show 0 ≤ ((((z135 - x3) - z137) + 4) - 1) from by omega)⟩ w (by decide) rfl
      · replace c_104 : ¬ z103 = 0 := fun h => c_104 ((iz_eq (Int.le_trans (by decide) z103_a) (Int.le_trans z103_b (by decide))).mpr h)
        refine lv_iconst (v := iI 0) hx hb dX12_readDoes_38 (by decide +kernel) ?_
        refine lv_goto (tgt := 43) hx hb dX12_readDoes_39 (by decide) ?_
        refine r_iast (ws' := [(a1, .inl (T 0, 940, .inl f0)), (a2, .inl (T 0, 329, .inl (cI f1))), (a7, .inl (T 1, 12, .inr (.inl h0))), (a20, .inl (T 0, 160, .inl (cI (upz f2 x0 0)))), (a0, .inr (11, [.int r0, .ref a1, .int (iI x1), .int (iI x2), .int r1, .int (iI x3), .int r2, .int (iI x4), .int (iI x5), .int r3, .int r4, .int r5, .long y0, .int (iI x6), .ref a2, .ref a3, .ref a4, .ref a5, .ref a6, .ref a7, .ref a8, .ref a9, .ref a10, .ref a11, .int (iI x7), .ref a12, .ref a13, .ref a14, .ref a15, .int (iI x8), .int r6, .int r7, .ref a16, .int r8, .int r9, .ref a17, .ref a18, .int (iI x9), .ref a19, .int (iI x10), .int r10, .ref a20, .ref a21, .int (iI x11), .int r11, .ref a22, .int (iI x12), .int (iI x13), .int (iI x14), .int (iI x15)]))]) M w 3 rfl (iI_in (by omega) (by omega) (by decide)) (by rw [cI_up (by omega) (by omega)]; rfl) dX12_readDoes_43 (fun H locs w => ?_)
        refine lv_aload_n hx hb dX12_readDoes_44 rfl (lv_at hl 0 rfl) ?_
        refine k_V (ce := 0) (sl := 0) (rest := []) (wr := [(a2, .inl (T 0, 329, .inl (cI f1))), (a7, .inl (T 1, 12, .inr (.inl h0))), (a20, .inl (T 0, 160, .inl (cI (upz f2 x0 0))))]) (r_V (f := 1) [4, 0] M w V_HookedCityModel_82 G1629 G49 (c12_X12_go l D T _ a0 r0 a1 x1 x2 r1 x3 r2 x4 x5 r3 r4 r5 y0 x6 a2 a3 a4 a5 a6 a7 a8 a9 a10 a11 x7 a12 a13 a14 a15 x8 r6 r7 a16 r8 r9 a17 a18 x9 a19 x10 r10 a20 a21 x11 r11 a22 x12 x13 x14 x15 f0 x1_a x1_b x2_a x2_b x3_a x3_b x4_a x4_b x5_a x5_b x6_a x6_b x7_a x7_b x8_a x8_b x9_a x9_b x10_a x10_b x11_a x11_b x12_a x12_b x13_a x13_b x14_a x14_b x15_a x15_b) 4 clX12 rfl rfl (by decide) rfl hl.1 rfl (Nat.le_of_ble_eq_true rfl) dX12_readDoes_45 (by decide) (by decide) (by decide) (by decide)) w [4, 0] [1, 2, 3] rfl rfl (by decide) (by decide) rfl rfl (fun u H locs hp w => ?_)
        obtain ⟨z153, fr154, z155, z156, fr157, fy158⟩ := u
        have z153_a : 0 ≤ z153 := hp.1
        have z153_b : z153 ≤ 940 := hp.2.1
        have z155_a : 0 ≤ z155 := hp.2.2.1
        have z155_b : z155 ≤ 4 := hp.2.2.2.1
        have z156_a : (-2147483648) ≤ z156 := hp.2.2.2.2.1
        have z156_b : z156 ≤ 2147483647 := hp.2.2.2.2.2.1
        have ee159 : 0 ≤ (z153 - x3) := hp.2.2.2.2.2.2.1
        have ee160 : 0 ≤ (((z153 - x3) - z155) + 3) := hp.2.2.2.2.2.2.2
        have w : WD D A s.heap [(a2, .inl (T 0, 329, .inl (cI f1))), (a7, .inl (T 1, 12, .inr (.inl h0))), (a20, .inl (T 0, 160, .inl (cI (upz f2 x0 0)))), (a0, .inr (11, [.int r0, .ref a1, .int (iI x1), .int (iI x2), .int r1, .int (iI z153), .int fr154, .int (iI z155), .int (iI z156), .int fr157, .int r4, .int r5, .long fy158, .int (iI x6), .ref a2, .ref a3, .ref a4, .ref a5, .ref a6, .ref a7, .ref a8, .ref a9, .ref a10, .ref a11, .int (iI x7), .ref a12, .ref a13, .ref a14, .ref a15, .int (iI x8), .int r6, .int r7, .ref a16, .int r8, .int r9, .ref a17, .ref a18, .int (iI x9), .ref a19, .int (iI x10), .int r10, .ref a20, .ref a21, .int (iI x11), .int r11, .ref a22, .int (iI x12), .int (iI x13), .int (iI x14), .int (iI x15)])), (a1, .inl (T 0, 940, .inl f0))] H locs := w
        refine lv_aload_n hx hb dX12_readDoes_48 rfl (lv_at hl 0 rfl) ?_
        refine lv_iload_n hx hb dX12_readDoes_49 rfl (lv_at hl 1 rfl) ?_
        refine lv_iconst (v := iI 2) hx hb dX12_readDoes_50 (by decide +kernel) ?_
        refine r_iadd (v := iI (x0 + 2)) M (iI_add _ _) dX12_readDoes_51 ?_
        refine lv_aload_n hx hb dX12_readDoes_52 rfl (lv_at hl 0 rfl) ?_
        refine k_I (ce := 0) (sl := 0) (rest := [.int (iI (x0 + 2)), .ref a0]) (wr := [(a20, .inl (T 0, 160, .inl (cI (upz f2 x0 0))))]) (r_V (f := 3) [3, 4, 0, 1] M w V_HookedCityModel_370 G1989 G104 (c104_X12_readPersonName l D T _ a0 r0 a1 x1 x2 r1 z153 fr154 z155 z156 fr157 r4 r5 fy158 x6 a2 a3 a4 a5 a6 a7 a8 a9 a10 a11 x7 a12 a13 a14 a15 x8 r6 r7 a16 r8 r9 a17 a18 x9 a19 x10 r10 a20 a21 x11 r11 a22 x12 x13 x14 x15 f0 f1 h0 x1_a x1_b x2_a x2_b z153_a z153_b z155_a z155_b z156_a z156_b x6_a x6_b x7_a x7_b x8_a x8_b x9_a x9_b x10_a x10_b x11_a x11_b x12_a x12_b x13_a x13_b x14_a x14_b x15_a x15_b f1_h) 3 clX12 rfl rfl (by decide) rfl hl.1 rfl (Nat.le_of_ble_eq_true rfl) dX12_readDoes_53 (by decide) (by decide) (by decide) (by decide)) w [3, 4, 0, 1] [2] rfl rfl (by decide) (by decide) rfl rfl (fun v u H locs hp w => ?_)
        obtain ⟨z161, z162, fr163, z164, z165, fr166, fr167, fr168, fy169, z170⟩ := u
        have hv : iI z161 = v := hp.1
        subst hv
        have z161_a : 0 ≤ z161 := hp.2.1
        have z161_b : z161 ≤ 1 := hp.2.2.1
        have z162_a : 0 ≤ z162 := hp.2.2.2.1
        have z162_b : z162 ≤ 940 := hp.2.2.2.2.1
        have z164_a : 0 ≤ z164 := hp.2.2.2.2.2.1
        have z164_b : z164 ≤ 4 := hp.2.2.2.2.2.2.1
        have z165_a : (-2147483648) ≤ z165 := hp.2.2.2.2.2.2.2.1
        have z165_b : z165 ≤ 2147483647 := hp.2.2.2.2.2.2.2.2.1
        have z170_a : (-2147483648) ≤ z170 := hp.2.2.2.2.2.2.2.2.2.1
        have z170_b : z170 ≤ 2147483647 := hp.2.2.2.2.2.2.2.2.2.2.1
        have ee171 : 0 ≤ (z162 - z153) := hp.2.2.2.2.2.2.2.2.2.2.2.1
        have ee172 : 0 ≤ ((((z162 - z153) - z164) + 4) - z161) := hp.2.2.2.2.2.2.2.2.2.2.2.2.1
        have ee173 : 0 ≤ ((z170 + 4294967296) - (z161 * 4294967296)) := hp.2.2.2.2.2.2.2.2.2.2.2.2.2.1
        have ee174 : 0 ≤ (((8 - z170) + 4294967296) - (z161 * 4294967296)) := hp.2.2.2.2.2.2.2.2.2.2.2.2.2.2
        have w : WD D A s.heap [(a20, .inl (T 0, 160, .inl (cI (upz f2 x0 0)))), (a0, .inr (11, [.int r0, .ref a1, .int (iI x1), .int (iI x2), .int r1, .int (iI z162), .int fr163, .int (iI z164), .int (iI z165), .int fr166, .int fr167, .int fr168, .long fy169, .int (iI z170), .ref a2, .ref a3, .ref a4, .ref a5, .ref a6, .ref a7, .ref a8, .ref a9, .ref a10, .ref a11, .int (iI x7), .ref a12, .ref a13, .ref a14, .ref a15, .int (iI x8), .int r6, .int r7, .ref a16, .int r8, .int r9, .ref a17, .ref a18, .int (iI x9), .ref a19, .int (iI x10), .int r10, .ref a20, .ref a21, .int (iI x11), .int r11, .ref a22, .int (iI x12), .int (iI x13), .int (iI x14), .int (iI x15)])), (a1, .inl (T 0, 940, .inl f0)), (a2, .inl (T 0, 329, .inl (cI f1))), (a7, .inl (T 1, 12, .inr (.inl h0)))] H locs := w
        refine k_I (ce := 0) (sl := 0) (rest := []) (wr := [(a1, .inl (T 0, 940, .inl f0)), (a2, .inl (T 0, 329, .inl (cI f1))), (a7, .inl (T 1, 12, .inr (.inl h0)))]) (r_V (f := 0) [1, 0] M w V_HookedCityModel_373 G1993 G105 (c105_X12_keep l D T _ a0 (x0 + 2) z161 r0 a1 x1 x2 r1 z162 fr163 z164 z165 fr166 fr167 fr168 fy169 z170 a2 a3 a4 a5 a6 a7 a8 a9 a10 a11 x7 a12 a13 a14 a15 x8 r6 r7 a16 r8 r9 a17 a18 x9 a19 x10 r10 a20 a21 x11 r11 a22 x12 x13 x14 x15 (upz f2 x0 0) (by omega) (by omega) z161_a z161_b x1_a x1_b x2_a x2_b z162_a z162_b z164_a z164_b z165_a z165_b z170_a z170_b x7_a x7_b x8_a x8_b x9_a x9_b x10_a x10_b x11_a x11_b x12_a x12_b x13_a x13_b x14_a x14_b x15_a x15_b (ln_op f2_h (n := x11) (by omega) (by omega) (by omega) (by decide) (by decide) pp_x) (fun h => ln_p (ln_op f2_h (n := x11) (by omega) (by omega) (by omega) (by decide) (by decide) pp_x) (n := x11) (by omega) (by omega) (by omega) (by omega) (by omega))) 1 clX12 rfl rfl (by decide) rfl hl.1 rfl (Nat.le_of_ble_eq_true rfl) dX12_readDoes_56 (by decide) (by decide) (by decide) (by decide)) w [1, 0] [2, 3, 4] rfl rfl (by decide) (by decide) rfl rfl (fun v u H locs hp w => ?_)
        obtain ⟨z175, ff176⟩ := u
        have hv : iI z175 = v := hp.1
        subst hv
        have z175_a : 0 ≤ z175 := hp.2.1
        have z175_b : z175 ≤ 1 := hp.2.2.1
        have ff176_h : lnI ff176 := hp.2.2.2.1
        have ee177 : 0 ≤ (z161 - z175) := hp.2.2.2.2.1
        have ee178 : 0 ≤ (z175 - z161) := hp.2.2.2.2.2
        have w : WD D A s.heap [(a1, .inl (T 0, 940, .inl f0)), (a2, .inl (T 0, 329, .inl (cI f1))), (a7, .inl (T 1, 12, .inr (.inl h0))), (a0, .inr (11, [.int r0, .ref a1, .int (iI x1), .int (iI x2), .int r1, .int (iI z162), .int fr163, .int (iI z164), .int (iI z165), .int fr166, .int fr167, .int fr168, .long fy169, .int (iI z170), .ref a2, .ref a3, .ref a4, .ref a5, .ref a6, .ref a7, .ref a8, .ref a9, .ref a10, .ref a11, .int (iI x7), .ref a12, .ref a13, .ref a14, .ref a15, .int (iI x8), .int r6, .int r7, .ref a16, .int r8, .int r9, .ref a17, .ref a18, .int (iI x9), .ref a19, .int (iI x10), .int r10, .ref a20, .ref a21, .int (iI x11), .int r11, .ref a22, .int (iI x12), .int (iI x13), .int (iI x14), .int (iI x15)])), (a20, .inl (T 0, 160, .inl (cI ff176)))] H locs := w
        refine lv_if_eq (tgt := 90) hx hb dX12_readDoes_59 (by decide) (fun c_179 => ?_) (fun c_179 => ?_)
        · replace c_179 := (iz_eq (Int.le_trans (by decide) z175_a) (Int.le_trans z175_b (by decide))).mp c_179
          refine lv_iconst (v := iI 0) hx hb dX12_readDoes_90 (by decide +kernel) ?_
          exact ret _ (0, z162, fr163, z164, z165, fr166, fr167, fr168, fy169, z170, ff176) _ _ _ _ _ [3, 0, 1, 2, 4] dX12_readDoes_91 (by decide +kernel) ⟨rfl, (show (0 : Int) ≤ 0 from by decide), (show (0 : Int) ≤ 1 from by decide), z162_a, z162_b, z164_a, z164_b, z165_a, z165_b, z170_a, z170_b, ff176_h, (show 0 ≤ (z162 - x3) from by omega), (show 0 ≤ ((((z162 - x3) - z164) + 4) - 0) from by omega)⟩ w (by decide) rfl
        · replace c_179 : ¬ z175 = 0 := fun h => c_179 ((iz_eq (Int.le_trans (by decide) z175_a) (Int.le_trans z175_b (by decide))).mpr h)
          refine lv_aload_n hx hb dX12_readDoes_62 rfl (lv_at hl 0 rfl) ?_
          refine r_get (v := .ref a20) M w 3 41 clX12 rfl (by decide) G1504 rfl rfl dX12_readDoes_63 ?_
          refine lv_iload_n hx hb dX12_readDoes_66 rfl (lv_at hl 1 rfl) ?_
          refine r_iald (v := iI (ff176 x0)) M w 4 rfl (iI_in (by omega) (by omega) (by decide)) (cI_at (by omega) (by omega)) dX12_readDoes_67 ?_
          have hh180 : (-2147483648) ≤ (ff176 x0) ∧ (ff176 x0) ≤ 2147483647 := ff176_h.1 x0
          refine lv_iconst (v := iI 1) hx hb dX12_readDoes_68 (by decide +kernel) ?_
          refine lv_icmp_eq (tgt := 86) hx hb dX12_readDoes_69 (by decide) (fun c_181 => ?_) (fun c_181 => ?_)
          · replace c_181 := (iI_eq (by omega) (by omega) (by decide) (by decide)).mp c_181
            refine lv_iconst (v := iI 1) hx hb dX12_readDoes_86 (by decide +kernel) ?_
            refine lv_goto (tgt := 91) hx hb dX12_readDoes_87 (by decide) ?_
            exact ret _ (1, z162, fr163, z164, z165, fr166, fr167, fr168, fy169, z170, ff176) _ _ _ _ _ [3, 0, 1, 2, 4] dX12_readDoes_91 (by decide +kernel) ⟨rfl, (show (0 : Int) ≤ 1 from by decide), (show (1 : Int) ≤ 1 from by decide), z162_a, z162_b, z164_a, z164_b, z165_a, z165_b, z170_a, z170_b, ff176_h, (show 0 ≤ (z162 - x3) from by omega), (show 0 ≤ ((((z162 - x3) - z164) + 4) - 1) from by omega)⟩ w (by decide) rfl
          · replace c_181 : ¬ (ff176 x0) = 1 := fun h => c_181 ((iI_eq (by omega) (by omega) (by decide) (by decide)).mpr h)
            refine lv_aload_n hx hb dX12_readDoes_72 rfl (lv_at hl 0 rfl) ?_
            refine lv_iload_n hx hb dX12_readDoes_73 rfl (lv_at hl 1 rfl) ?_
            refine lv_iconst (v := iI 3) hx hb dX12_readDoes_74 (by decide +kernel) ?_
            refine r_iadd (v := iI (x0 + 3)) M (iI_add _ _) dX12_readDoes_75 ?_
            refine lv_aload_n hx hb dX12_readDoes_76 rfl (lv_at hl 0 rfl) ?_
            refine k_I (ce := 0) (sl := 0) (rest := [.int (iI (x0 + 3)), .ref a0]) (wr := [(a20, .inl (T 0, 160, .inl (cI ff176)))]) (r_V (f := 3) [3, 0, 1, 2] M w V_HookedCityModel_370 G1989 G104 (c104_X12_readPersonName l D T _ a0 r0 a1 x1 x2 r1 z162 fr163 z164 z165 fr166 fr167 fr168 fy169 z170 a2 a3 a4 a5 a6 a7 a8 a9 a10 a11 x7 a12 a13 a14 a15 x8 r6 r7 a16 r8 r9 a17 a18 x9 a19 x10 r10 a20 a21 x11 r11 a22 x12 x13 x14 x15 f0 f1 h0 x1_a x1_b x2_a x2_b z162_a z162_b z164_a z164_b z165_a z165_b z170_a z170_b x7_a x7_b x8_a x8_b x9_a x9_b x10_a x10_b x11_a x11_b x12_a x12_b x13_a x13_b x14_a x14_b x15_a x15_b f1_h) 3 clX12 rfl rfl (by decide) rfl hl.1 rfl (Nat.le_of_ble_eq_true rfl) dX12_readDoes_77 (by decide) (by decide) (by decide) (by decide)) w [3, 0, 1, 2] [4] rfl rfl (by decide) (by decide) rfl rfl (fun v u H locs hp w => ?_)
            obtain ⟨z182, z183, fr184, z185, z186, fr187, fr188, fr189, fy190, z191⟩ := u
            have hv : iI z182 = v := hp.1
            subst hv
            have z182_a : 0 ≤ z182 := hp.2.1
            have z182_b : z182 ≤ 1 := hp.2.2.1
            have z183_a : 0 ≤ z183 := hp.2.2.2.1
            have z183_b : z183 ≤ 940 := hp.2.2.2.2.1
            have z185_a : 0 ≤ z185 := hp.2.2.2.2.2.1
            have z185_b : z185 ≤ 4 := hp.2.2.2.2.2.2.1
            have z186_a : (-2147483648) ≤ z186 := hp.2.2.2.2.2.2.2.1
            have z186_b : z186 ≤ 2147483647 := hp.2.2.2.2.2.2.2.2.1
            have z191_a : (-2147483648) ≤ z191 := hp.2.2.2.2.2.2.2.2.2.1
            have z191_b : z191 ≤ 2147483647 := hp.2.2.2.2.2.2.2.2.2.2.1
            have ee192 : 0 ≤ (z183 - z162) := hp.2.2.2.2.2.2.2.2.2.2.2.1
            have ee193 : 0 ≤ ((((z183 - z162) - z185) + 4) - z182) := hp.2.2.2.2.2.2.2.2.2.2.2.2.1
            have ee194 : 0 ≤ ((z191 + 4294967296) - (z182 * 4294967296)) := hp.2.2.2.2.2.2.2.2.2.2.2.2.2.1
            have ee195 : 0 ≤ (((8 - z191) + 4294967296) - (z182 * 4294967296)) := hp.2.2.2.2.2.2.2.2.2.2.2.2.2.2
            have w : WD D A s.heap [(a20, .inl (T 0, 160, .inl (cI ff176))), (a0, .inr (11, [.int r0, .ref a1, .int (iI x1), .int (iI x2), .int r1, .int (iI z183), .int fr184, .int (iI z185), .int (iI z186), .int fr187, .int fr188, .int fr189, .long fy190, .int (iI z191), .ref a2, .ref a3, .ref a4, .ref a5, .ref a6, .ref a7, .ref a8, .ref a9, .ref a10, .ref a11, .int (iI x7), .ref a12, .ref a13, .ref a14, .ref a15, .int (iI x8), .int r6, .int r7, .ref a16, .int r8, .int r9, .ref a17, .ref a18, .int (iI x9), .ref a19, .int (iI x10), .int r10, .ref a20, .ref a21, .int (iI x11), .int r11, .ref a22, .int (iI x12), .int (iI x13), .int (iI x14), .int (iI x15)])), (a1, .inl (T 0, 940, .inl f0)), (a2, .inl (T 0, 329, .inl (cI f1))), (a7, .inl (T 1, 12, .inr (.inl h0)))] H locs := w
            refine k_I (ce := 0) (sl := 0) (rest := []) (wr := [(a1, .inl (T 0, 940, .inl f0)), (a2, .inl (T 0, 329, .inl (cI f1))), (a7, .inl (T 1, 12, .inr (.inl h0)))]) (r_V (f := 0) [1, 0] M w V_HookedCityModel_373 G1993 G105 (c105_X12_keep l D T _ a0 (x0 + 3) z182 r0 a1 x1 x2 r1 z183 fr184 z185 z186 fr187 fr188 fr189 fy190 z191 a2 a3 a4 a5 a6 a7 a8 a9 a10 a11 x7 a12 a13 a14 a15 x8 r6 r7 a16 r8 r9 a17 a18 x9 a19 x10 r10 a20 a21 x11 r11 a22 x12 x13 x14 x15 ff176 (by omega) (by omega) z182_a z182_b x1_a x1_b x2_a x2_b z183_a z183_b z185_a z185_b z186_a z186_b z191_a z191_b x7_a x7_b x8_a x8_b x9_a x9_b x10_a x10_b x11_a x11_b x12_a x12_b x13_a x13_b x14_a x14_b x15_a x15_b ff176_h (fun h => ln_q ff176_h (n := x11) (by omega) (by omega) (by omega) (by omega) (by omega))) 1 clX12 rfl rfl (by decide) rfl hl.1 rfl (Nat.le_of_ble_eq_true rfl) dX12_readDoes_80 (by decide) (by decide) (by decide) (by decide)) w [1, 0] [2, 3, 4] rfl rfl (by decide) (by decide) rfl rfl (fun v u H locs hp w => ?_)
            obtain ⟨z196, ff197⟩ := u
            have hv : iI z196 = v := hp.1
            subst hv
            have z196_a : 0 ≤ z196 := hp.2.1
            have z196_b : z196 ≤ 1 := hp.2.2.1
            have ff197_h : lnI ff197 := hp.2.2.2.1
            have ee198 : 0 ≤ (z182 - z196) := hp.2.2.2.2.1
            have ee199 : 0 ≤ (z196 - z182) := hp.2.2.2.2.2
            have w : WD D A s.heap [(a1, .inl (T 0, 940, .inl f0)), (a2, .inl (T 0, 329, .inl (cI f1))), (a7, .inl (T 1, 12, .inr (.inl h0))), (a0, .inr (11, [.int r0, .ref a1, .int (iI x1), .int (iI x2), .int r1, .int (iI z183), .int fr184, .int (iI z185), .int (iI z186), .int fr187, .int fr188, .int fr189, .long fy190, .int (iI z191), .ref a2, .ref a3, .ref a4, .ref a5, .ref a6, .ref a7, .ref a8, .ref a9, .ref a10, .ref a11, .int (iI x7), .ref a12, .ref a13, .ref a14, .ref a15, .int (iI x8), .int r6, .int r7, .ref a16, .int r8, .int r9, .ref a17, .ref a18, .int (iI x9), .ref a19, .int (iI x10), .int r10, .ref a20, .ref a21, .int (iI x11), .int r11, .ref a22, .int (iI x12), .int (iI x13), .int (iI x14), .int (iI x15)])), (a20, .inl (T 0, 160, .inl (cI ff197)))] H locs := w
            refine lv_if_eq (tgt := 90) hx hb dX12_readDoes_83 (by decide) (fun c_200 => ?_) (fun c_200 => ?_)
            · replace c_200 := (iz_eq (Int.le_trans (by decide) z196_a) (Int.le_trans z196_b (by decide))).mp c_200
              refine lv_iconst (v := iI 0) hx hb dX12_readDoes_90 (by decide +kernel) ?_
              exact ret _ (0, z183, fr184, z185, z186, fr187, fr188, fr189, fy190, z191, ff197) _ _ _ _ _ [3, 0, 1, 2, 4] dX12_readDoes_91 (by decide +kernel) ⟨rfl, (show (0 : Int) ≤ 0 from by decide), (show (0 : Int) ≤ 1 from by decide), z183_a, z183_b, z185_a, z185_b, z186_a, z186_b, z191_a, z191_b, ff197_h, (show 0 ≤ (z183 - x3) from by omega), (show 0 ≤ ((((z183 - x3) - z185) + 4) - 0) from by omega)⟩ w (by decide) rfl
            · replace c_200 : ¬ z196 = 0 := fun h => c_200 ((iz_eq (Int.le_trans (by decide) z196_a) (Int.le_trans z196_b (by decide))).mpr h)
              refine lv_iconst (v := iI 1) hx hb dX12_readDoes_86 (by decide +kernel) ?_
              refine lv_goto (tgt := 91) hx hb dX12_readDoes_87 (by decide) ?_
              exact ret _ (1, z183, fr184, z185, z186, fr187, fr188, fr189, fy190, z191, ff197) _ _ _ _ _ [3, 0, 1, 2, 4] dX12_readDoes_91 (by decide +kernel) ⟨rfl, (show (0 : Int) ≤ 1 from by decide), (show (1 : Int) ≤ 1 from by decide), z183_a, z183_b, z185_a, z185_b, z186_a, z186_b, z191_a, z191_b, ff197_h, (show 0 ≤ (z183 - x3) from by omega), (show 0 ≤ ((((z183 - x3) - z185) + 4) - 1) from by omega)⟩ w (by decide) rfl
    · replace c_102 := (iz_eq (Int.le_trans (by decide) z101_a) (Int.le_trans z101_b (by decide))).mp c_102
      refine lv_aload_n hx hb dX12_readDoes_18 rfl (lv_at hl 0 rfl) ?_
      refine lv_iconst (v := iI 1) hx hb dX12_readDoes_19 (by decide +kernel) ?_
      refine k_I (ce := 0) (sl := 0) (rest := []) (wr := [(a1, .inl (T 0, 940, .inl f0)), (a2, .inl (T 0, 329, .inl (cI f1))), (a7, .inl (T 1, 12, .inr (.inl h0))), (a20, .inl (T 0, 160, .inl (cI f2)))]) (r_V (f := 0) [4] M w V_HookedCityModel_72 G1667 G55 (c18_X12_bad l D T _ a0 1 r0 a1 x1 x2 r1 x3 r2 x4 x5 r3 r4 r5 y0 x6 a2 a3 a4 a5 a6 a7 a8 a9 a10 a11 x7 a12 a13 a14 a15 x8 r6 r7 a16 r8 r9 a17 a18 x9 a19 x10 r10 a20 a21 x11 r11 a22 x12 x13 x14 x15 (by decide) (by decide) x1_a x1_b x2_a x2_b x3_a x3_b x4_a x4_b x5_a x5_b x6_a x6_b x7_a x7_b x8_a x8_b x9_a x9_b x10_a x10_b x11_a x11_b x12_a x12_b x13_a x13_b x14_a x14_b x15_a x15_b) 4 clX12 rfl rfl (by decide) rfl hl.1 rfl (Nat.le_of_ble_eq_true rfl) dX12_readDoes_20 (by decide) (by decide) (by decide) (by decide)) w [4] [0, 1, 2, 3] rfl rfl (by decide) (by decide) rfl rfl (fun v u H locs hp w => ?_)
      obtain ⟨z201, fr202, fr203⟩ := u
      have hv : iI z201 = v := hp.1
      subst hv
      have z201_a : 0 ≤ z201 := hp.2.1
      have z201_b : z201 ≤ 1 := hp.2.2.1
      have w : WD D A s.heap [(a1, .inl (T 0, 940, .inl f0)), (a2, .inl (T 0, 329, .inl (cI f1))), (a7, .inl (T 1, 12, .inr (.inl h0))), (a20, .inl (T 0, 160, .inl (cI f2))), (a0, .inr (11, [.int r0, .ref a1, .int (iI x1), .int (iI x2), .int r1, .int (iI x3), .int r2, .int (iI x4), .int (iI x5), .int r3, .int fr202, .int fr203, .long y0, .int (iI x6), .ref a2, .ref a3, .ref a4, .ref a5, .ref a6, .ref a7, .ref a8, .ref a9, .ref a10, .ref a11, .int (iI x7), .ref a12, .ref a13, .ref a14, .ref a15, .int (iI x8), .int r6, .int r7, .ref a16, .int r8, .int r9, .ref a17, .ref a18, .int (iI x9), .ref a19, .int (iI x10), .int r10, .ref a20, .ref a21, .int (iI x11), .int r11, .ref a22, .int (iI x12), .int (iI x13), .int (iI x14), .int (iI x15)]))] H locs := w
      rcases hp.2.2.2 with hr
      · subst hr
        exact ret _ (0, x3, r2, x4, x5, r3, fr202, fr203, y0, x6, f2) _ _ _ _ _ [4, 0, 1, 2, 3] dX12_readDoes_23 (by decide +kernel) ⟨rfl, (show (0 : Int) ≤ 0 from by decide), (show (0 : Int) ≤ 1 from by decide), x3_a, x3_b, x4_a, x4_b, x5_a, x5_b, x6_a, x6_b, f2_h, (show 0 ≤ (x3 - x3) from by omega), (show 0 ≤ ((((x3 - x3) - x4) + 4) - 0) from by omega)⟩ w (by decide) rfl
set_option maxRecDepth 100000 in
set_option maxHeartbeats 4000000 in
theorem c107_X12_readBookLine (l : Launch) (D : va_G) (T : Nat → ClassId) (sz : Nat) (a0 : Nat) (r0 : Int32) (a1 : Nat) (x0 : Int) (x1 : Int) (r1 : Int32) (x2 : Int) (r2 : Int32) (x3 : Int) (x4 : Int) (r3 : Int32) (r4 : Int32) (r5 : Int32) (y0 : Int64) (x5 : Int) (a2 : Nat) (a3 : Nat) (a4 : Nat) (a5 : Nat) (a6 : Nat) (a7 : Nat) (a8 : Nat) (a9 : Nat) (a10 : Nat) (a11 : Nat) (x6 : Int) (a12 : Nat) (a13 : Nat) (a14 : Nat) (a15 : Nat) (x7 : Int) (r6 : Int32) (r7 : Int32) (a16 : Nat) (r8 : Int32) (r9 : Int32) (a17 : Nat) (a18 : Nat) (x8 : Int) (a19 : Nat) (x9 : Int) (r10 : Int32) (a20 : Nat) (a21 : Nat) (x10 : Int) (r11 : Int32) (a22 : Nat) (x11 : Int) (x12 : Int) (x13 : Int) (x14 : Int) (f0 : Nat → Int32) (f1 : Int → Int) (h0 : Nat → Int64) (f2 : Int → Int) (x0_a : 0 ≤ x0) (x0_b : x0 ≤ 940) (x1_a : 0 ≤ x1) (x1_b : x1 ≤ 940) (x2_a : 0 ≤ x2) (x2_b : x2 ≤ 940) (x3_a : 0 ≤ x3) (x3_b : x3 ≤ 4) (x4_a : (-2147483648) ≤ x4) (x4_b : x4 ≤ 2147483647) (x5_a : (-2147483648) ≤ x5) (x5_b : x5 ≤ 2147483647) (x6_a : 0 ≤ x6) (x6_b : x6 ≤ 8) (x7_a : 0 ≤ x7) (x7_b : x7 ≤ 9) (x8_a : 0 ≤ x8) (x8_b : x8 ≤ 9) (x9_a : 0 ≤ x9) (x9_b : x9 ≤ 64) (x10_a : 0 ≤ x10) (x10_b : x10 ≤ 40) (x11_a : 0 ≤ x11) (x11_b : x11 ≤ 40) (x12_a : 0 ≤ x12) (x12_b : x12 ≤ 20) (x13_a : 0 ≤ x13) (x13_b : x13 ≤ 8) (x14_a : 0 ≤ x14) (x14_b : x14 ≤ 39) (f1_h : nowI f1) (f2_h : lnI f2) : Met l yX12_readBookLine (Cond.code yX12_readBookLine cX12_readBookLine 4 (some .boolean) :: GW) (Rm 5 0 0) (cPre [.ref a0] D T [(a0, .inr (11, [.int r0, .ref a1, .int (iI x0), .int (iI x1), .int r1, .int (iI x2), .int r2, .int (iI x3), .int (iI x4), .int r3, .int r4, .int r5, .long y0, .int (iI x5), .ref a2, .ref a3, .ref a4, .ref a5, .ref a6, .ref a7, .ref a8, .ref a9, .ref a10, .ref a11, .int (iI x6), .ref a12, .ref a13, .ref a14, .ref a15, .int (iI x7), .int r6, .int r7, .ref a16, .int r8, .int r9, .ref a17, .ref a18, .int (iI x8), .ref a19, .int (iI x9), .int r10, .ref a20, .ref a21, .int (iI x10), .int r11, .ref a22, .int (iI x11), .int (iI x12), .int (iI x13), .int (iI x14)])), (a1, .inl (T 0, 940, .inl f0)), (a2, .inl (T 0, 329, .inl (cI f1))), (a7, .inl (T 1, 12, .inr (.inl h0))), (a20, .inl (T 0, 160, .inl (cI f2)))] sz) (qI D [(a0, .inr (11, [.int r0, .ref a1, .int (iI x0), .int (iI x1), .int r1, .int (iI x2), .int r2, .int (iI x3), .int (iI x4), .int r3, .int r4, .int r5, .long y0, .int (iI x5), .ref a2, .ref a3, .ref a4, .ref a5, .ref a6, .ref a7, .ref a8, .ref a9, .ref a10, .ref a11, .int (iI x6), .ref a12, .ref a13, .ref a14, .ref a15, .int (iI x7), .int r6, .int r7, .ref a16, .int r8, .int r9, .ref a17, .ref a18, .int (iI x8), .ref a19, .int (iI x9), .int r10, .ref a20, .ref a21, .int (iI x10), .int r11, .ref a22, .int (iI x11), .int (iI x12), .int (iI x13), .int (iI x14)])), (a1, .inl (T 0, 940, .inl f0)), (a2, .inl (T 0, 329, .inl (cI f1))), (a7, .inl (T 1, 12, .inr (.inl h0))), (a20, .inl (T 0, 160, .inl (cI f2)))] sz (fun (v : Int32) (u : Int × Int × Int32 × Int × Int × Int32 × Int32 × Int32 × Int64 × Int × (Int → Int)) => iI u.1 = v ∧ 0 ≤ u.1 ∧ u.1 ≤ 1 ∧ 0 ≤ u.2.1 ∧ u.2.1 ≤ 940 ∧ 0 ≤ u.2.2.2.1 ∧ u.2.2.2.1 ≤ 4 ∧ (-2147483648) ≤ u.2.2.2.2.1 ∧ u.2.2.2.2.1 ≤ 2147483647 ∧ (-2147483648) ≤ u.2.2.2.2.2.2.2.2.2.1 ∧ u.2.2.2.2.2.2.2.2.2.1 ≤ 2147483647 ∧ lnI u.2.2.2.2.2.2.2.2.2.2 ∧ 0 ≤ ((u.2.1 - x2) - u.1) ∧ 0 ≤ ((79 - x10) - (u.1 * 40))) (fun u => [(a0, .inr (11, [.int r0, .ref a1, .int (iI x0), .int (iI x1), .int r1, .int (iI u.2.1), .int u.2.2.1, .int (iI u.2.2.2.1), .int (iI u.2.2.2.2.1), .int u.2.2.2.2.2.1, .int u.2.2.2.2.2.2.1, .int u.2.2.2.2.2.2.2.1, .long u.2.2.2.2.2.2.2.2.1, .int (iI u.2.2.2.2.2.2.2.2.2.1), .ref a2, .ref a3, .ref a4, .ref a5, .ref a6, .ref a7, .ref a8, .ref a9, .ref a10, .ref a11, .int (iI x6), .ref a12, .ref a13, .ref a14, .ref a15, .int (iI x7), .int r6, .int r7, .ref a16, .int r8, .int r9, .ref a17, .ref a18, .int (iI x8), .ref a19, .int (iI x9), .int r10, .ref a20, .ref a21, .int (iI x10), .int r11, .ref a22, .int (iI x11), .int (iI x12), .int (iI x13), .int (iI x14)])), (a1, .inl (T 0, 940, .inl f0)), (a2, .inl (T 0, 329, .inl (cI f1))), (a7, .inl (T 1, 12, .inr (.inl h0))), (a20, .inl (T 0, 160, .inl (cI u.2.2.2.2.2.2.2.2.2.2)))])) 0 0 (va_A [(a0, .inr (11, [.int r0, .ref a1, .int (iI x0), .int (iI x1), .int r1, .int (iI x2), .int r2, .int (iI x3), .int (iI x4), .int r3, .int r4, .int r5, .long y0, .int (iI x5), .ref a2, .ref a3, .ref a4, .ref a5, .ref a6, .ref a7, .ref a8, .ref a9, .ref a10, .ref a11, .int (iI x6), .ref a12, .ref a13, .ref a14, .ref a15, .int (iI x7), .int r6, .int r7, .ref a16, .int r8, .int r9, .ref a17, .ref a18, .int (iI x8), .ref a19, .int (iI x9), .int r10, .ref a20, .ref a21, .int (iI x10), .int r11, .ref a22, .int (iI x11), .int (iI x12), .int (iI x13), .int (iI x14)])), (a1, .inl (T 0, 940, .inl f0)), (a2, .inl (T 0, 329, .inl (cI f1))), (a7, .inl (T 1, 12, .inr (.inl h0))), (a20, .inl (T 0, 160, .inl (cI f2)))] sz) := by
  refine e_Z (by decide) (Nat.le_of_ble_eq_true rfl) ?_
  intro p e s m args below meth c A Q ls M hin w ret hl
  have hx := M.1.1
  have hb := M.1.2.1
  have hl : lv_has ls 4 [(0, .ref a0)] := hl
  refine lv_aload_n hx hb dX12_readBookLine_0 rfl (lv_at hl 0 rfl) ?_
  refine lv_bipush (v := iI 13) hx hb dX12_readBookLine_1 (by decide +kernel) ?_
  refine k_I (ce := 0) (sl := 0) (rest := []) (wr := [(a1, .inl (T 0, 940, .inl f0)), (a2, .inl (T 0, 329, .inl (cI f1))), (a7, .inl (T 1, 12, .inr (.inl h0))), (a20, .inl (T 0, 160, .inl (cI f2)))]) (r_V (f := 2) [0] M w V_HookedCityModel_183 G1649 G52 (c15_X12_isWord l D T _ a0 13 r0 a1 x0 x1 r1 x2 r2 x3 x4 r3 r4 r5 y0 x5 a2 a3 a4 a5 a6 a7 a8 a9 a10 a11 x6 a12 a13 a14 a15 x7 r6 r7 a16 r8 r9 a17 a18 x8 a19 x9 r10 a20 a21 x10 r11 a22 x11 x12 x13 x14 (by decide) (by decide) x0_a x0_b x1_a x1_b x2_a x2_b x3_a x3_b x4_a x4_b x5_a x5_b x6_a x6_b x7_a x7_b x8_a x8_b x9_a x9_b x10_a x10_b x11_a x11_b x12_a x12_b x13_a x13_b x14_a x14_b) 0 clX12 rfl rfl (by decide) rfl hl.1 rfl (Nat.le_of_ble_eq_true rfl) dX12_readBookLine_3 (by decide) (by decide) (by decide) (by decide)) w [0] [1, 2, 3, 4] rfl rfl (by decide) (by decide) rfl rfl (fun v z1 H locs hp w => ?_)
  have hv : iI z1 = v := hp.1
  subst hv
  have z1_a : 0 ≤ z1 := hp.2.1
  have z1_b : z1 ≤ 1 := hp.2.2
  have w : WD D A s.heap [(a1, .inl (T 0, 940, .inl f0)), (a2, .inl (T 0, 329, .inl (cI f1))), (a7, .inl (T 1, 12, .inr (.inl h0))), (a20, .inl (T 0, 160, .inl (cI f2))), (a0, .inr (11, [.int r0, .ref a1, .int (iI x0), .int (iI x1), .int r1, .int (iI x2), .int r2, .int (iI x3), .int (iI x4), .int r3, .int r4, .int r5, .long y0, .int (iI x5), .ref a2, .ref a3, .ref a4, .ref a5, .ref a6, .ref a7, .ref a8, .ref a9, .ref a10, .ref a11, .int (iI x6), .ref a12, .ref a13, .ref a14, .ref a15, .int (iI x7), .int r6, .int r7, .ref a16, .int r8, .int r9, .ref a17, .ref a18, .int (iI x8), .ref a19, .int (iI x9), .int r10, .ref a20, .ref a21, .int (iI x10), .int r11, .ref a22, .int (iI x11), .int (iI x12), .int (iI x13), .int (iI x14)]))] H locs := w
  refine lv_istore_n (lv' := [(1, .int (iI z1)), (0, .ref a0)]) hx hb dX12_readBookLine_6 rfl hl (by decide) rfl (fun ls hl => ?_)
  refine lv_aload_n hx hb dX12_readBookLine_7 rfl (lv_at hl 1 rfl) ?_
  refine lv_bipush (v := iI 14) hx hb dX12_readBookLine_8 (by decide +kernel) ?_
  refine k_I (ce := 0) (sl := 0) (rest := []) (wr := [(a1, .inl (T 0, 940, .inl f0)), (a2, .inl (T 0, 329, .inl (cI f1))), (a7, .inl (T 1, 12, .inr (.inl h0))), (a20, .inl (T 0, 160, .inl (cI f2)))]) (r_V (f := 2) [4] M w V_HookedCityModel_183 G1649 G52 (c15_X12_isWord l D T _ a0 14 r0 a1 x0 x1 r1 x2 r2 x3 x4 r3 r4 r5 y0 x5 a2 a3 a4 a5 a6 a7 a8 a9 a10 a11 x6 a12 a13 a14 a15 x7 r6 r7 a16 r8 r9 a17 a18 x8 a19 x9 r10 a20 a21 x10 r11 a22 x11 x12 x13 x14 (by decide) (by decide) x0_a x0_b x1_a x1_b x2_a x2_b x3_a x3_b x4_a x4_b x5_a x5_b x6_a x6_b x7_a x7_b x8_a x8_b x9_a x9_b x10_a x10_b x11_a x11_b x12_a x12_b x13_a x13_b x14_a x14_b) 4 clX12 rfl rfl (by decide) rfl hl.1 rfl (Nat.le_of_ble_eq_true rfl) dX12_readBookLine_10 (by decide) (by decide) (by decide) (by decide)) w [4] [0, 1, 2, 3] rfl rfl (by decide) (by decide) rfl rfl (fun v z2 H locs hp w => ?_)
  have hv : iI z2 = v := hp.1
  subst hv
  have z2_a : 0 ≤ z2 := hp.2.1
  have z2_b : z2 ≤ 1 := hp.2.2
  have w : WD D A s.heap [(a1, .inl (T 0, 940, .inl f0)), (a2, .inl (T 0, 329, .inl (cI f1))), (a7, .inl (T 1, 12, .inr (.inl h0))), (a20, .inl (T 0, 160, .inl (cI f2))), (a0, .inr (11, [.int r0, .ref a1, .int (iI x0), .int (iI x1), .int r1, .int (iI x2), .int r2, .int (iI x3), .int (iI x4), .int r3, .int r4, .int r5, .long y0, .int (iI x5), .ref a2, .ref a3, .ref a4, .ref a5, .ref a6, .ref a7, .ref a8, .ref a9, .ref a10, .ref a11, .int (iI x6), .ref a12, .ref a13, .ref a14, .ref a15, .int (iI x7), .int r6, .int r7, .ref a16, .int r8, .int r9, .ref a17, .ref a18, .int (iI x8), .ref a19, .int (iI x9), .int r10, .ref a20, .ref a21, .int (iI x10), .int r11, .ref a22, .int (iI x11), .int (iI x12), .int (iI x13), .int (iI x14)]))] H locs := w
  refine lv_istore_n (lv' := [(2, .int (iI z2)), (1, .int (iI z1)), (0, .ref a0)]) hx hb dX12_readBookLine_13 rfl hl (by decide) rfl (fun ls hl => ?_)
  refine lv_iload_n hx hb dX12_readBookLine_14 rfl (lv_at hl 1 rfl) ?_
  refine lv_if_ne (tgt := 64) hx hb dX12_readBookLine_15 (by decide) (fun c_3 => ?_) (fun c_3 => ?_)
  · replace c_3 : ¬ z1 = 0 := fun h => c_3 ((iz_eq (Int.le_trans (by decide) z1_a) (Int.le_trans z1_b (by decide))).mpr h)
    refine lv_aload_n hx hb dX12_readBookLine_64 rfl (lv_at hl 2 rfl) ?_
    refine r_get (v := .int (iI x10)) M w 4 43 clX12 rfl (by decide) G1506 rfl rfl dX12_readBookLine_65 ?_
    refine lv_bipush (v := iI 40) hx hb dX12_readBookLine_68 (by decide +kernel) ?_
    refine lv_icmp_ne (tgt := 79) hx hb dX12_readBookLine_70 (by decide) (fun c_4 => ?_) (fun c_4 => ?_)
    · replace c_4 : ¬ x10 = 40 := fun h => c_4 ((iI_eq (Int.le_trans (by decide) x10_a) (Int.le_trans x10_b (by decide)) (by decide) (by decide)).mpr h)
      refine lv_iconst (v := iI 4) hx hb dX12_readBookLine_79 (by decide +kernel) ?_
      refine lv_aload_n hx hb dX12_readBookLine_80 rfl (lv_at hl 2 rfl) ?_
      refine r_get (v := .int (iI x10)) M w 4 43 clX12 rfl (by decide) G1506 rfl rfl dX12_readBookLine_81 ?_
      refine r_imul (v := iI (4 * x10)) M (iI_mul _ _) dX12_readBookLine_84 ?_
      refine lv_istore_n (lv' := [(3, .int (iI (4 * x10))), (2, .int (iI z2)), (1, .int (iI z1)), (0, .ref a0)]) hx hb dX12_readBookLine_85 rfl hl (by decide) rfl (fun ls hl => ?_)
      refine lv_aload_n hx hb dX12_readBookLine_86 rfl (lv_at hl 3 rfl) ?_
      refine r_get (v := .ref a20) M w 4 41 clX12 rfl (by decide) G1504 rfl rfl dX12_readBookLine_87 ?_
      refine lv_iload_n hx hb dX12_readBookLine_90 rfl (lv_at hl 0 rfl) ?_
      refine lv_iload_n hx hb dX12_readBookLine_91 rfl (lv_at hl 2 rfl) ?_
      refine lv_if_eq (tgt := 99) hx hb dX12_readBookLine_92 (by decide) (fun c_5 => ?_) (fun c_5 => ?_)
      · replace c_5 := (iz_eq (Int.le_trans (by decide) z1_a) (Int.le_trans z1_b (by decide))).mp c_5
        exfalso; omega
      · replace c_5 : ¬ z1 = 0 := fun h => c_5 ((iz_eq (Int.le_trans (by decide) z1_a) (Int.le_trans z1_b (by decide))).mpr h)
        refine lv_iconst (v := iI 2) hx hb dX12_readBookLine_95 (by decide +kernel) ?_
        refine lv_goto (tgt := 100) hx hb dX12_readBookLine_96 (by decide) ?_
        refine r_iast (ws' := [(a1, .inl (T 0, 940, .inl f0)), (a2, .inl (T 0, 329, .inl (cI f1))), (a7, .inl (T 1, 12, .inr (.inl h0))), (a20, .inl (T 0, 160, .inl (cI (upz f2 (4 * x10) 2)))), (a0, .inr (11, [.int r0, .ref a1, .int (iI x0), .int (iI x1), .int r1, .int (iI x2), .int r2, .int (iI x3), .int (iI x4), .int r3, .int r4, .int r5, .long y0, .int (iI x5), .ref a2, .ref a3, .ref a4, .ref a5, .ref a6, .ref a7, .ref a8, .ref a9, .ref a10, .ref a11, .int (iI x6), .ref a12, .ref a13, .ref a14, .ref a15, .int (iI x7), .int r6, .int r7, .ref a16, .int r8, .int r9, .ref a17, .ref a18, .int (iI x8), .ref a19, .int (iI x9), .int r10, .ref a20, .ref a21, .int (iI x10), .int r11, .ref a22, .int (iI x11), .int (iI x12), .int (iI x13), .int (iI x14)]))]) M w 3 rfl (iI_in (by omega) (by omega) (by decide)) (by rw [cI_up (by omega) (by omega)]; rfl) dX12_readBookLine_100 (fun H locs w => ?_)
        refine lv_aload_n hx hb dX12_readBookLine_101 rfl (lv_at hl 3 rfl) ?_
        refine r_get (v := .ref a20) M w 4 41 clX12 rfl (by decide) G1504 rfl rfl dX12_readBookLine_102 ?_
        refine lv_iload_n hx hb dX12_readBookLine_105 rfl (lv_at hl 0 rfl) ?_
        refine lv_iconst (v := iI 1) hx hb dX12_readBookLine_106 (by decide +kernel) ?_
        refine r_iadd (v := iI ((4 * x10) + 1)) M (iI_add _ _) dX12_readBookLine_107 ?_
        refine lv_iload_n hx hb dX12_readBookLine_108 rfl (lv_at hl 2 rfl) ?_
        refine lv_if_ne (tgt := 116) hx hb dX12_readBookLine_109 (by decide) (fun c_6 => ?_) (fun c_6 => ?_)
        · replace c_6 : ¬ z1 = 0 := fun h => c_6 ((iz_eq (Int.le_trans (by decide) z1_a) (Int.le_trans z1_b (by decide))).mpr h)
          refine lv_iconst (v := iI 0) hx hb dX12_readBookLine_116 (by decide +kernel) ?_
          refine lv_goto (tgt := 139) hx hb dX12_readBookLine_117 (by decide) ?_
          refine r_iast (ws' := [(a1, .inl (T 0, 940, .inl f0)), (a2, .inl (T 0, 329, .inl (cI f1))), (a7, .inl (T 1, 12, .inr (.inl h0))), (a20, .inl (T 0, 160, .inl (cI (upz (upz f2 (4 * x10) 2) ((4 * x10) + 1) 0)))), (a0, .inr (11, [.int r0, .ref a1, .int (iI x0), .int (iI x1), .int r1, .int (iI x2), .int r2, .int (iI x3), .int (iI x4), .int r3, .int r4, .int r5, .long y0, .int (iI x5), .ref a2, .ref a3, .ref a4, .ref a5, .ref a6, .ref a7, .ref a8, .ref a9, .ref a10, .ref a11, .int (iI x6), .ref a12, .ref a13, .ref a14, .ref a15, .int (iI x7), .int r6, .int r7, .ref a16, .int r8, .int r9, .ref a17, .ref a18, .int (iI x8), .ref a19, .int (iI x9), .int r10, .ref a20, .ref a21, .int (iI x10), .int r11, .ref a22, .int (iI x11), .int (iI x12), .int (iI x13), .int (iI x14)]))]) M w 3 rfl (iI_in (by omega) (by omega) (by decide)) (by rw [cI_up (by omega) (by omega)]; rfl) dX12_readBookLine_139 (fun H locs w => ?_)
          refine lv_aload_n hx hb dX12_readBookLine_140 rfl (lv_at hl 3 rfl) ?_
          refine r_get (v := .ref a20) M w 4 41 clX12 rfl (by decide) G1504 rfl rfl dX12_readBookLine_141 ?_
          refine lv_iload_n hx hb dX12_readBookLine_144 rfl (lv_at hl 0 rfl) ?_
          refine lv_iconst (v := iI 2) hx hb dX12_readBookLine_145 (by decide +kernel) ?_
          refine r_iadd (v := iI ((4 * x10) + 2)) M (iI_add _ _) dX12_readBookLine_146 ?_
          refine lv_iconst (v := iI 0) hx hb dX12_readBookLine_147 (by decide +kernel) ?_
          refine r_iast (ws' := [(a1, .inl (T 0, 940, .inl f0)), (a2, .inl (T 0, 329, .inl (cI f1))), (a7, .inl (T 1, 12, .inr (.inl h0))), (a20, .inl (T 0, 160, .inl (cI (upz (upz (upz f2 (4 * x10) 2) ((4 * x10) + 1) 0) ((4 * x10) + 2) 0)))), (a0, .inr (11, [.int r0, .ref a1, .int (iI x0), .int (iI x1), .int r1, .int (iI x2), .int r2, .int (iI x3), .int (iI x4), .int r3, .int r4, .int r5, .long y0, .int (iI x5), .ref a2, .ref a3, .ref a4, .ref a5, .ref a6, .ref a7, .ref a8, .ref a9, .ref a10, .ref a11, .int (iI x6), .ref a12, .ref a13, .ref a14, .ref a15, .int (iI x7), .int r6, .int r7, .ref a16, .int r8, .int r9, .ref a17, .ref a18, .int (iI x8), .ref a19, .int (iI x9), .int r10, .ref a20, .ref a21, .int (iI x10), .int r11, .ref a22, .int (iI x11), .int (iI x12), .int (iI x13), .int (iI x14)]))]) M w 3 rfl (iI_in (by omega) (by omega) (by decide)) (by rw [cI_up (by omega) (by omega)]; rfl) dX12_readBookLine_148 (fun H locs w => ?_)
          refine lv_aload_n hx hb dX12_readBookLine_149 rfl (lv_at hl 3 rfl) ?_
          refine r_get (v := .ref a20) M w 4 41 clX12 rfl (by decide) G1504 rfl rfl dX12_readBookLine_150 ?_
          refine lv_iload_n hx hb dX12_readBookLine_153 rfl (lv_at hl 0 rfl) ?_
          refine lv_iconst (v := iI 3) hx hb dX12_readBookLine_154 (by decide +kernel) ?_
          refine r_iadd (v := iI ((4 * x10) + 3)) M (iI_add _ _) dX12_readBookLine_155 ?_
          refine lv_iconst (v := iI 0) hx hb dX12_readBookLine_156 (by decide +kernel) ?_
          refine r_iast (ws' := [(a1, .inl (T 0, 940, .inl f0)), (a2, .inl (T 0, 329, .inl (cI f1))), (a7, .inl (T 1, 12, .inr (.inl h0))), (a20, .inl (T 0, 160, .inl (cI (upz (upz (upz (upz f2 (4 * x10) 2) ((4 * x10) + 1) 0) ((4 * x10) + 2) 0) ((4 * x10) + 3) 0)))), (a0, .inr (11, [.int r0, .ref a1, .int (iI x0), .int (iI x1), .int r1, .int (iI x2), .int r2, .int (iI x3), .int (iI x4), .int r3, .int r4, .int r5, .long y0, .int (iI x5), .ref a2, .ref a3, .ref a4, .ref a5, .ref a6, .ref a7, .ref a8, .ref a9, .ref a10, .ref a11, .int (iI x6), .ref a12, .ref a13, .ref a14, .ref a15, .int (iI x7), .int r6, .int r7, .ref a16, .int r8, .int r9, .ref a17, .ref a18, .int (iI x8), .ref a19, .int (iI x9), .int r10, .ref a20, .ref a21, .int (iI x10), .int r11, .ref a22, .int (iI x11), .int (iI x12), .int (iI x13), .int (iI x14)]))]) M w 3 rfl (iI_in (by omega) (by omega) (by decide)) (by rw [cI_up (by omega) (by omega)]; rfl) dX12_readBookLine_157 (fun H locs w => ?_)
          refine lv_aload_n hx hb dX12_readBookLine_158 rfl (lv_at hl 3 rfl) ?_
          refine k_V (ce := 0) (sl := 0) (rest := []) (wr := [(a2, .inl (T 0, 329, .inl (cI f1))), (a7, .inl (T 1, 12, .inr (.inl h0))), (a20, .inl (T 0, 160, .inl (cI (upz (upz (upz (upz f2 (4 * x10) 2) ((4 * x10) + 1) 0) ((4 * x10) + 2) 0) ((4 * x10) + 3) 0))))]) (r_V (f := 1) [4, 0] M w V_HookedCityModel_82 G1629 G49 (c12_X12_go l D T _ a0 r0 a1 x0 x1 r1 x2 r2 x3 x4 r3 r4 r5 y0 x5 a2 a3 a4 a5 a6 a7 a8 a9 a10 a11 x6 a12 a13 a14 a15 x7 r6 r7 a16 r8 r9 a17 a18 x8 a19 x9 r10 a20 a21 x10 r11 a22 x11 x12 x13 x14 f0 x0_a x0_b x1_a x1_b x2_a x2_b x3_a x3_b x4_a x4_b x5_a x5_b x6_a x6_b x7_a x7_b x8_a x8_b x9_a x9_b x10_a x10_b x11_a x11_b x12_a x12_b x13_a x13_b x14_a x14_b) 4 clX12 rfl rfl (by decide) rfl hl.1 rfl (Nat.le_of_ble_eq_true rfl) dX12_readBookLine_159 (by decide) (by decide) (by decide) (by decide)) w [4, 0] [1, 2, 3] rfl rfl (by decide) (by decide) rfl rfl (fun u H locs hp w => ?_)
          obtain ⟨z7, fr8, z9, z10, fr11, fy12⟩ := u
          have z7_a : 0 ≤ z7 := hp.1
          have z7_b : z7 ≤ 940 := hp.2.1
          have z9_a : 0 ≤ z9 := hp.2.2.1
          have z9_b : z9 ≤ 4 := hp.2.2.2.1
          have z10_a : (-2147483648) ≤ z10 := hp.2.2.2.2.1
          have z10_b : z10 ≤ 2147483647 := hp.2.2.2.2.2.1
          have ee13 : 0 ≤ (z7 - x2) := hp.2.2.2.2.2.2.1
          have ee14 : 0 ≤ (((z7 - x2) - z9) + 3) := hp.2.2.2.2.2.2.2
          have w : WD D A s.heap [(a2, .inl (T 0, 329, .inl (cI f1))), (a7, .inl (T 1, 12, .inr (.inl h0))), (a20, .inl (T 0, 160, .inl (cI (upz (upz (upz (upz f2 (4 * x10) 2) ((4 * x10) + 1) 0) ((4 * x10) + 2) 0) ((4 * x10) + 3) 0)))), (a0, .inr (11, [.int r0, .ref a1, .int (iI x0), .int (iI x1), .int r1, .int (iI z7), .int fr8, .int (iI z9), .int (iI z10), .int fr11, .int r4, .int r5, .long fy12, .int (iI x5), .ref a2, .ref a3, .ref a4, .ref a5, .ref a6, .ref a7, .ref a8, .ref a9, .ref a10, .ref a11, .int (iI x6), .ref a12, .ref a13, .ref a14, .ref a15, .int (iI x7), .int r6, .int r7, .ref a16, .int r8, .int r9, .ref a17, .ref a18, .int (iI x8), .ref a19, .int (iI x9), .int r10, .ref a20, .ref a21, .int (iI x10), .int r11, .ref a22, .int (iI x11), .int (iI x12), .int (iI x13), .int (iI x14)])), (a1, .inl (T 0, 940, .inl f0))] H locs := w
          refine lv_iload_n hx hb dX12_readBookLine_162 rfl (lv_at hl 2 rfl) ?_
          refine lv_if_eq (tgt := 193) hx hb dX12_readBookLine_163 (by decide) (fun c_15 => ?_) (fun c_15 => ?_)
          · replace c_15 := (iz_eq (Int.le_trans (by decide) z1_a) (Int.le_trans z1_b (by decide))).mp c_15
            exfalso; omega
          · replace c_15 : ¬ z1 = 0 := fun h => c_15 ((iz_eq (Int.le_trans (by decide) z1_a) (Int.le_trans z1_b (by decide))).mpr h)
            refine lv_aload_n hx hb dX12_readBookLine_166 rfl (lv_at hl 3 rfl) ?_
            refine lv_iload_n hx hb dX12_readBookLine_167 rfl (lv_at hl 0 rfl) ?_
            refine lv_iconst (v := iI 1) hx hb dX12_readBookLine_168 (by decide +kernel) ?_
            refine r_iadd (v := iI ((4 * x10) + 1)) M (iI_add _ _) dX12_readBookLine_169 ?_
            refine lv_aload_n hx hb dX12_readBookLine_170 rfl (lv_at hl 3 rfl) ?_
            refine k_I (ce := 0) (sl := 0) (rest := [.int (iI ((4 * x10) + 1)), .ref a0]) (wr := [(a20, .inl (T 0, 160, .inl (cI (upz (upz (upz (upz f2 (4 * x10) 2) ((4 * x10) + 1) 0) ((4 * x10) + 2) 0) ((4 * x10) + 3) 0))))]) (r_V (f := 3) [3, 4, 0, 1] M w V_HookedCityModel_370 G1989 G104 (c104_X12_readPersonName l D T _ a0 r0 a1 x0 x1 r1 z7 fr8 z9 z10 fr11 r4 r5 fy12 x5 a2 a3 a4 a5 a6 a7 a8 a9 a10 a11 x6 a12 a13 a14 a15 x7 r6 r7 a16 r8 r9 a17 a18 x8 a19 x9 r10 a20 a21 x10 r11 a22 x11 x12 x13 x14 f0 f1 h0 x0_a x0_b x1_a x1_b z7_a z7_b z9_a z9_b z10_a z10_b x5_a x5_b x6_a x6_b x7_a x7_b x8_a x8_b x9_a x9_b x10_a x10_b x11_a x11_b x12_a x12_b x13_a x13_b x14_a x14_b f1_h) 3 clX12 rfl rfl (by decide) rfl hl.1 rfl (Nat.le_of_ble_eq_true rfl) dX12_readBookLine_171 (by decide) (by decide) (by decide) (by decide)) w [3, 4, 0, 1] [2] rfl rfl (by decide) (by decide) rfl rfl (fun v u H locs hp w => ?_)
            obtain ⟨z16, z17, fr18, z19, z20, fr21, fr22, fr23, fy24, z25⟩ := u
            have hv : iI z16 = v := hp.1
            subst hv
            have z16_a : 0 ≤ z16 := hp.2.1
            have z16_b : z16 ≤ 1 := hp.2.2.1
            have z17_a : 0 ≤ z17 := hp.2.2.2.1
            have z17_b : z17 ≤ 940 := hp.2.2.2.2.1
            have z19_a : 0 ≤ z19 := hp.2.2.2.2.2.1
            have z19_b : z19 ≤ 4 := hp.2.2.2.2.2.2.1
            have z20_a : (-2147483648) ≤ z20 := hp.2.2.2.2.2.2.2.1
            have z20_b : z20 ≤ 2147483647 := hp.2.2.2.2.2.2.2.2.1
            have z25_a : (-2147483648) ≤ z25 := hp.2.2.2.2.2.2.2.2.2.1
            have z25_b : z25 ≤ 2147483647 := hp.2.2.2.2.2.2.2.2.2.2.1
            have ee26 : 0 ≤ (z17 - z7) := hp.2.2.2.2.2.2.2.2.2.2.2.1
            have ee27 : 0 ≤ ((((z17 - z7) - z19) + 4) - z16) := hp.2.2.2.2.2.2.2.2.2.2.2.2.1
            have ee28 : 0 ≤ ((z25 + 4294967296) - (z16 * 4294967296)) := hp.2.2.2.2.2.2.2.2.2.2.2.2.2.1
            have ee29 : 0 ≤ (((8 - z25) + 4294967296) - (z16 * 4294967296)) := hp.2.2.2.2.2.2.2.2.2.2.2.2.2.2
            have w : WD D A s.heap [(a20, .inl (T 0, 160, .inl (cI (upz (upz (upz (upz f2 (4 * x10) 2) ((4 * x10) + 1) 0) ((4 * x10) + 2) 0) ((4 * x10) + 3) 0)))), (a0, .inr (11, [.int r0, .ref a1, .int (iI x0), .int (iI x1), .int r1, .int (iI z17), .int fr18, .int (iI z19), .int (iI z20), .int fr21, .int fr22, .int fr23, .long fy24, .int (iI z25), .ref a2, .ref a3, .ref a4, .ref a5, .ref a6, .ref a7, .ref a8, .ref a9, .ref a10, .ref a11, .int (iI x6), .ref a12, .ref a13, .ref a14, .ref a15, .int (iI x7), .int r6, .int r7, .ref a16, .int r8, .int r9, .ref a17, .ref a18, .int (iI x8), .ref a19, .int (iI x9), .int r10, .ref a20, .ref a21, .int (iI x10), .int r11, .ref a22, .int (iI x11), .int (iI x12), .int (iI x13), .int (iI x14)])), (a1, .inl (T 0, 940, .inl f0)), (a2, .inl (T 0, 329, .inl (cI f1))), (a7, .inl (T 1, 12, .inr (.inl h0)))] H locs := w
            refine k_I (ce := 0) (sl := 0) (rest := []) (wr := [(a1, .inl (T 0, 940, .inl f0)), (a2, .inl (T 0, 329, .inl (cI f1))), (a7, .inl (T 1, 12, .inr (.inl h0)))]) (r_V (f := 0) [1, 0] M w V_HookedCityModel_373 G1993 G105 (c105_X12_keep l D T _ a0 ((4 * x10) + 1) z16 r0 a1 x0 x1 r1 z17 fr18 z19 z20 fr21 fr22 fr23 fy24 z25 a2 a3 a4 a5 a6 a7 a8 a9 a10 a11 x6 a12 a13 a14 a15 x7 r6 r7 a16 r8 r9 a17 a18 x8 a19 x9 r10 a20 a21 x10 r11 a22 x11 x12 x13 x14 (upz (upz (upz (upz f2 (4 * x10) 2) ((4 * x10) + 1) 0) ((4 * x10) + 2) 0) ((4 * x10) + 3) 0) (by omega) (by omega) z16_a z16_b x0_a x0_b x1_a x1_b z17_a z17_b z19_a z19_b z20_a z20_b z25_a z25_b x6_a x6_b x7_a x7_b x8_a x8_b x9_a x9_b x10_a x10_b x11_a x11_b x12_a x12_b x13_a x13_b x14_a x14_b (ln_s f2_h (n := x10) (by omega) (by omega) (by unfold lok; omega) ⟨by omega, by omega⟩ rfl) (fun h => ln_x (ln_s f2_h (n := x10) (by omega) (by omega) (by unfold lok; omega) ⟨by omega, by omega⟩ rfl) (n := x10) (by omega) (by omega) (by omega) (by omega) (by omega) (Or.inr ⟨by rw [upz_n (by omega), upz_n (by omega), upz_n (by omega), upz_s], by omega, by omega⟩))) 1 clX12 rfl rfl (by decide) rfl hl.1 rfl (Nat.le_of_ble_eq_true rfl) dX12_readBookLine_174 (by decide) (by decide) (by decide) (by decide)) w [1, 0] [2, 3, 4] rfl rfl (by decide) (by decide) rfl rfl (fun v u H locs hp w => ?_)
            obtain ⟨z30, ff31⟩ := u
            have hv : iI z30 = v := hp.1
            subst hv
            have z30_a : 0 ≤ z30 := hp.2.1
            have z30_b : z30 ≤ 1 := hp.2.2.1
            have ff31_h : lnI ff31 := hp.2.2.2.1
            have ee32 : 0 ≤ (z16 - z30) := hp.2.2.2.2.1
            have ee33 : 0 ≤ (z30 - z16) := hp.2.2.2.2.2
            have w : WD D A s.heap [(a1, .inl (T 0, 940, .inl f0)), (a2, .inl (T 0, 329, .inl (cI f1))), (a7, .inl (T 1, 12, .inr (.inl h0))), (a0, .inr (11, [.int r0, .ref a1, .int (iI x0), .int (iI x1), .int r1, .int (iI z17), .int fr18, .int (iI z19), .int (iI z20), .int fr21, .int fr22, .int fr23, .long fy24, .int (iI z25), .ref a2, .ref a3, .ref a4, .ref a5, .ref a6, .ref a7, .ref a8, .ref a9, .ref a10, .ref a11, .int (iI x6), .ref a12, .ref a13, .ref a14, .ref a15, .int (iI x7), .int r6, .int r7, .ref a16, .int r8, .int r9, .ref a17, .ref a18, .int (iI x8), .ref a19, .int (iI x9), .int r10, .ref a20, .ref a21, .int (iI x10), .int r11, .ref a22, .int (iI x11), .int (iI x12), .int (iI x13), .int (iI x14)])), (a20, .inl (T 0, 160, .inl (cI ff31)))] H locs := w
            refine lv_if_eq (tgt := 191) hx hb dX12_readBookLine_177 (by decide) (fun c_34 => ?_) (fun c_34 => ?_)
            · replace c_34 := (iz_eq (Int.le_trans (by decide) z30_a) (Int.le_trans z30_b (by decide))).mp c_34
              refine lv_iconst (v := iI 0) hx hb dX12_readBookLine_191 (by decide +kernel) ?_
              exact ret _ (0, z17, fr18, z19, z20, fr21, fr22, fr23, fy24, z25, ff31) _ _ _ _ _ [3, 0, 1, 2, 4] dX12_readBookLine_192 (by decide +kernel) ⟨rfl, (show (0 : Int) ≤ 0 from by decide), (show (0 : Int) ≤ 1 from by decide), z17_a, z17_b, z19_a, z19_b, z20_a, z20_b, z25_a, z25_b, ff31_h, (show 0 ≤ ((z17 - x2) - 0) from by omega), (show 0 ≤ ((79 - x10) - (0 * 40)) from by omega)⟩ w (by decide) rfl
            · replace c_34 : ¬ z30 = 0 := fun h => c_34 ((iz_eq (Int.le_trans (by decide) z30_a) (Int.le_trans z30_b (by decide))).mpr h)
              refine lv_aload_n hx hb dX12_readBookLine_180 rfl (lv_at hl 3 rfl) ?_
              refine k_I (ce := 0) (sl := 0) (rest := []) (wr := [(a2, .inl (T 0, 329, .inl (cI f1))), (a7, .inl (T 1, 12, .inr (.inl h0))), (a20, .inl (T 0, 160, .inl (cI ff31)))]) (r_V (f := 2) [3, 0] M w V_HookedCityModel_230 G1720 G66 (c20_X12_readEnd l D T _ a0 r0 a1 x0 x1 r1 z17 fr18 z19 z20 fr21 fr22 fr23 fy24 z25 a2 a3 a4 a5 a6 a7 a8 a9 a10 a11 x6 a12 a13 a14 a15 x7 r6 r7 a16 r8 r9 a17 a18 x8 a19 x9 r10 a20 a21 x10 r11 a22 x11 x12 x13 x14 f0 x0_a x0_b x1_a x1_b z17_a z17_b z19_a z19_b z20_a z20_b z25_a z25_b x6_a x6_b x7_a x7_b x8_a x8_b x9_a x9_b x10_a x10_b x11_a x11_b x12_a x12_b x13_a x13_b x14_a x14_b) 3 clX12 rfl rfl (by decide) rfl hl.1 rfl (Nat.le_of_ble_eq_true rfl) dX12_readBookLine_181 (by decide) (by decide) (by decide) (by decide)) w [3, 0] [1, 2, 4] rfl rfl (by decide) (by decide) rfl rfl (fun v u H locs hp w => ?_)
              obtain ⟨z35, z36, fr37, z38, z39, fr40, fr41, fr42, fy43⟩ := u
              have hv : iI z35 = v := hp.1
              subst hv
              have z35_a : 0 ≤ z35 := hp.2.1
              have z35_b : z35 ≤ 1 := hp.2.2.1
              have z36_a : 0 ≤ z36 := hp.2.2.2.1
              have z36_b : z36 ≤ 940 := hp.2.2.2.2.1
              have z38_a : 0 ≤ z38 := hp.2.2.2.2.2.1
              have z38_b : z38 ≤ 4 := hp.2.2.2.2.2.2.1
              have z39_a : (-2147483648) ≤ z39 := hp.2.2.2.2.2.2.2.1
              have z39_b : z39 ≤ 2147483647 := hp.2.2.2.2.2.2.2.2.1
              have ee44 : 0 ≤ (z36 - z17) := hp.2.2.2.2.2.2.2.2.2.1
              have ee45 : 0 ≤ (z19 - (z35 * 4)) := hp.2.2.2.2.2.2.2.2.2.2
              have w : WD D A s.heap [(a2, .inl (T 0, 329, .inl (cI f1))), (a7, .inl (T 1, 12, .inr (.inl h0))), (a20, .inl (T 0, 160, .inl (cI ff31))), (a0, .inr (11, [.int r0, .ref a1, .int (iI x0), .int (iI x1), .int r1, .int (iI z36), .int fr37, .int (iI z38), .int (iI z39), .int fr40, .int fr41, .int fr42, .long fy43, .int (iI z25), .ref a2, .ref a3, .ref a4, .ref a5, .ref a6, .ref a7, .ref a8, .ref a9, .ref a10, .ref a11, .int (iI x6), .ref a12, .ref a13, .ref a14, .ref a15, .int (iI x7), .int r6, .int r7, .ref a16, .int r8, .int r9, .ref a17, .ref a18, .int (iI x8), .ref a19, .int (iI x9), .int r10, .ref a20, .ref a21, .int (iI x10), .int r11, .ref a22, .int (iI x11), .int (iI x12), .int (iI x13), .int (iI x14)])), (a1, .inl (T 0, 940, .inl f0))] H locs := w
              refine lv_if_eq (tgt := 191) hx hb dX12_readBookLine_184 (by decide) (fun c_46 => ?_) (fun c_46 => ?_)
              · replace c_46 := (iz_eq (Int.le_trans (by decide) z35_a) (Int.le_trans z35_b (by decide))).mp c_46
                refine lv_iconst (v := iI 0) hx hb dX12_readBookLine_191 (by decide +kernel) ?_
                exact ret _ (0, z36, fr37, z38, z39, fr40, fr41, fr42, fy43, z25, ff31) _ _ _ _ _ [3, 4, 0, 1, 2] dX12_readBookLine_192 (by decide +kernel) ⟨rfl, (show (0 : Int) ≤ 0 from by decide), (show (0 : Int) ≤ 1 from by decide), z36_a, z36_b, z38_a, z38_b, z39_a, z39_b, z25_a, z25_b, ff31_h, (show 0 ≤ ((z36 - x2) - 0) from by omega), (show 0 ≤ ((79 - x10) - (0 * 40)) from by omega)⟩ w (by decide) rfl
              · replace c_46 : ¬ z35 = 0 := fun h => c_46 ((iz_eq (Int.le_trans (by decide) z35_a) (Int.le_trans z35_b (by decide))).mpr h)
                refine lv_iconst (v := iI 1) hx hb dX12_readBookLine_187 (by decide +kernel) ?_
                refine lv_goto (tgt := 192) hx hb dX12_readBookLine_188 (by decide) ?_
                exact ret _ (1, z36, fr37, z38, z39, fr40, fr41, fr42, fy43, z25, ff31) _ _ _ _ _ [3, 4, 0, 1, 2] dX12_readBookLine_192 (by decide +kernel) ⟨rfl, (show (0 : Int) ≤ 1 from by decide), (show (1 : Int) ≤ 1 from by decide), z36_a, z36_b, z38_a, z38_b, z39_a, z39_b, z25_a, z25_b, ff31_h, (show 0 ≤ ((z36 - x2) - 1) from by omega), (show 0 ≤ ((79 - x10) - (1 * 40)) from by omega)⟩ w (by decide) rfl
        · replace c_6 := (iz_eq (Int.le_trans (by decide) z1_a) (Int.le_trans z1_b (by decide))).mp c_6
          exfalso; omega
    · replace c_4 := (iI_eq (Int.le_trans (by decide) x10_a) (Int.le_trans x10_b (by decide)) (by decide) (by decide)).mp c_4
      refine lv_aload_n hx hb dX12_readBookLine_73 rfl (lv_at hl 2 rfl) ?_
      refine lv_iconst (v := iI 4) hx hb dX12_readBookLine_74 (by decide +kernel) ?_
      refine k_I (ce := 0) (sl := 0) (rest := []) (wr := [(a1, .inl (T 0, 940, .inl f0)), (a2, .inl (T 0, 329, .inl (cI f1))), (a7, .inl (T 1, 12, .inr (.inl h0))), (a20, .inl (T 0, 160, .inl (cI f2)))]) (r_V (f := 0) [4] M w V_HookedCityModel_72 G1667 G55 (c18_X12_bad l D T _ a0 4 r0 a1 x0 x1 r1 x2 r2 x3 x4 r3 r4 r5 y0 x5 a2 a3 a4 a5 a6 a7 a8 a9 a10 a11 x6 a12 a13 a14 a15 x7 r6 r7 a16 r8 r9 a17 a18 x8 a19 x9 r10 a20 a21 x10 r11 a22 x11 x12 x13 x14 (by decide) (by decide) x0_a x0_b x1_a x1_b x2_a x2_b x3_a x3_b x4_a x4_b x5_a x5_b x6_a x6_b x7_a x7_b x8_a x8_b x9_a x9_b x10_a x10_b x11_a x11_b x12_a x12_b x13_a x13_b x14_a x14_b) 4 clX12 rfl rfl (by decide) rfl hl.1 rfl (Nat.le_of_ble_eq_true rfl) dX12_readBookLine_75 (by decide) (by decide) (by decide) (by decide)) w [4] [0, 1, 2, 3] rfl rfl (by decide) (by decide) rfl rfl (fun v u H locs hp w => ?_)
      obtain ⟨z47, fr48, fr49⟩ := u
      have hv : iI z47 = v := hp.1
      subst hv
      have z47_a : 0 ≤ z47 := hp.2.1
      have z47_b : z47 ≤ 1 := hp.2.2.1
      have w : WD D A s.heap [(a1, .inl (T 0, 940, .inl f0)), (a2, .inl (T 0, 329, .inl (cI f1))), (a7, .inl (T 1, 12, .inr (.inl h0))), (a20, .inl (T 0, 160, .inl (cI f2))), (a0, .inr (11, [.int r0, .ref a1, .int (iI x0), .int (iI x1), .int r1, .int (iI x2), .int r2, .int (iI x3), .int (iI x4), .int r3, .int fr48, .int fr49, .long y0, .int (iI x5), .ref a2, .ref a3, .ref a4, .ref a5, .ref a6, .ref a7, .ref a8, .ref a9, .ref a10, .ref a11, .int (iI x6), .ref a12, .ref a13, .ref a14, .ref a15, .int (iI x7), .int r6, .int r7, .ref a16, .int r8, .int r9, .ref a17, .ref a18, .int (iI x8), .ref a19, .int (iI x9), .int r10, .ref a20, .ref a21, .int (iI x10), .int r11, .ref a22, .int (iI x11), .int (iI x12), .int (iI x13), .int (iI x14)]))] H locs := w
      rcases hp.2.2.2 with hr
      · subst hr
        exact ret _ (0, x2, r2, x3, x4, r3, fr48, fr49, y0, x5, f2) _ _ _ _ _ [4, 0, 1, 2, 3] dX12_readBookLine_78 (by decide +kernel) ⟨rfl, (show (0 : Int) ≤ 0 from by decide), (show (0 : Int) ≤ 1 from by decide), x2_a, x2_b, x3_a, x3_b, x4_a, x4_b, x5_a, x5_b, f2_h, (show 0 ≤ ((x2 - x2) - 0) from by omega), (show 0 ≤ ((79 - x10) - (0 * 40)) from by omega)⟩ w (by decide) rfl
  · replace c_3 := (iz_eq (Int.le_trans (by decide) z1_a) (Int.le_trans z1_b (by decide))).mp c_3
    refine lv_iload_n hx hb dX12_readBookLine_18 rfl (lv_at hl 0 rfl) ?_
    refine lv_if_ne (tgt := 64) hx hb dX12_readBookLine_19 (by decide) (fun c_50 => ?_) (fun c_50 => ?_)
    · replace c_50 : ¬ z2 = 0 := fun h => c_50 ((iz_eq (Int.le_trans (by decide) z2_a) (Int.le_trans z2_b (by decide))).mpr h)
      refine lv_aload_n hx hb dX12_readBookLine_64 rfl (lv_at hl 2 rfl) ?_
      refine r_get (v := .int (iI x10)) M w 4 43 clX12 rfl (by decide) G1506 rfl rfl dX12_readBookLine_65 ?_
      refine lv_bipush (v := iI 40) hx hb dX12_readBookLine_68 (by decide +kernel) ?_
      refine lv_icmp_ne (tgt := 79) hx hb dX12_readBookLine_70 (by decide) (fun c_51 => ?_) (fun c_51 => ?_)
      · replace c_51 : ¬ x10 = 40 := fun h => c_51 ((iI_eq (Int.le_trans (by decide) x10_a) (Int.le_trans x10_b (by decide)) (by decide) (by decide)).mpr h)
        refine lv_iconst (v := iI 4) hx hb dX12_readBookLine_79 (by decide +kernel) ?_
        refine lv_aload_n hx hb dX12_readBookLine_80 rfl (lv_at hl 2 rfl) ?_
        refine r_get (v := .int (iI x10)) M w 4 43 clX12 rfl (by decide) G1506 rfl rfl dX12_readBookLine_81 ?_
        refine r_imul (v := iI (4 * x10)) M (iI_mul _ _) dX12_readBookLine_84 ?_
        refine lv_istore_n (lv' := [(3, .int (iI (4 * x10))), (2, .int (iI z2)), (1, .int (iI z1)), (0, .ref a0)]) hx hb dX12_readBookLine_85 rfl hl (by decide) rfl (fun ls hl => ?_)
        refine lv_aload_n hx hb dX12_readBookLine_86 rfl (lv_at hl 3 rfl) ?_
        refine r_get (v := .ref a20) M w 4 41 clX12 rfl (by decide) G1504 rfl rfl dX12_readBookLine_87 ?_
        refine lv_iload_n hx hb dX12_readBookLine_90 rfl (lv_at hl 0 rfl) ?_
        refine lv_iload_n hx hb dX12_readBookLine_91 rfl (lv_at hl 2 rfl) ?_
        refine lv_if_eq (tgt := 99) hx hb dX12_readBookLine_92 (by decide) (fun c_52 => ?_) (fun c_52 => ?_)
        · replace c_52 := (iz_eq (Int.le_trans (by decide) z1_a) (Int.le_trans z1_b (by decide))).mp c_52
          refine lv_iconst (v := iI 3) hx hb dX12_readBookLine_99 (by decide +kernel) ?_
          refine r_iast (ws' := [(a1, .inl (T 0, 940, .inl f0)), (a2, .inl (T 0, 329, .inl (cI f1))), (a7, .inl (T 1, 12, .inr (.inl h0))), (a20, .inl (T 0, 160, .inl (cI (upz f2 (4 * x10) 3)))), (a0, .inr (11, [.int r0, .ref a1, .int (iI x0), .int (iI x1), .int r1, .int (iI x2), .int r2, .int (iI x3), .int (iI x4), .int r3, .int r4, .int r5, .long y0, .int (iI x5), .ref a2, .ref a3, .ref a4, .ref a5, .ref a6, .ref a7, .ref a8, .ref a9, .ref a10, .ref a11, .int (iI x6), .ref a12, .ref a13, .ref a14, .ref a15, .int (iI x7), .int r6, .int r7, .ref a16, .int r8, .int r9, .ref a17, .ref a18, .int (iI x8), .ref a19, .int (iI x9), .int r10, .ref a20, .ref a21, .int (iI x10), .int r11, .ref a22, .int (iI x11), .int (iI x12), .int (iI x13), .int (iI x14)]))]) M w 3 rfl (iI_in (by omega) (by omega) (by decide)) (by rw [cI_up (by omega) (by omega)]; rfl) dX12_readBookLine_100 (fun H locs w => ?_)
          refine lv_aload_n hx hb dX12_readBookLine_101 rfl (lv_at hl 3 rfl) ?_
          refine r_get (v := .ref a20) M w 4 41 clX12 rfl (by decide) G1504 rfl rfl dX12_readBookLine_102 ?_
          refine lv_iload_n hx hb dX12_readBookLine_105 rfl (lv_at hl 0 rfl) ?_
          refine lv_iconst (v := iI 1) hx hb dX12_readBookLine_106 (by decide +kernel) ?_
          refine r_iadd (v := iI ((4 * x10) + 1)) M (iI_add _ _) dX12_readBookLine_107 ?_
          refine lv_iload_n hx hb dX12_readBookLine_108 rfl (lv_at hl 2 rfl) ?_
          refine lv_if_ne (tgt := 116) hx hb dX12_readBookLine_109 (by decide) (fun c_53 => ?_) (fun c_53 => ?_)
          · replace c_53 : ¬ z1 = 0 := fun h => c_53 ((iz_eq (Int.le_trans (by decide) z1_a) (Int.le_trans z1_b (by decide))).mpr h)
            exfalso; omega
          · replace c_53 := (iz_eq (Int.le_trans (by decide) z1_a) (Int.le_trans z1_b (by decide))).mp c_53
            refine lv_iload_n hx hb dX12_readBookLine_112 rfl (lv_at hl 1 rfl) ?_
            refine lv_if_eq (tgt := 120) hx hb dX12_readBookLine_113 (by decide) (fun c_54 => ?_) (fun c_54 => ?_)
            · replace c_54 := (iz_eq (Int.le_trans (by decide) z2_a) (Int.le_trans z2_b (by decide))).mp c_54
              exfalso; omega
            · replace c_54 : ¬ z2 = 0 := fun h => c_54 ((iz_eq (Int.le_trans (by decide) z2_a) (Int.le_trans z2_b (by decide))).mpr h)
              refine lv_iconst (v := iI 0) hx hb dX12_readBookLine_116 (by decide +kernel) ?_
              refine lv_goto (tgt := 139) hx hb dX12_readBookLine_117 (by decide) ?_
              refine r_iast (ws' := [(a1, .inl (T 0, 940, .inl f0)), (a2, .inl (T 0, 329, .inl (cI f1))), (a7, .inl (T 1, 12, .inr (.inl h0))), (a20, .inl (T 0, 160, .inl (cI (upz (upz f2 (4 * x10) 3) ((4 * x10) + 1) 0)))), (a0, .inr (11, [.int r0, .ref a1, .int (iI x0), .int (iI x1), .int r1, .int (iI x2), .int r2, .int (iI x3), .int (iI x4), .int r3, .int r4, .int r5, .long y0, .int (iI x5), .ref a2, .ref a3, .ref a4, .ref a5, .ref a6, .ref a7, .ref a8, .ref a9, .ref a10, .ref a11, .int (iI x6), .ref a12, .ref a13, .ref a14, .ref a15, .int (iI x7), .int r6, .int r7, .ref a16, .int r8, .int r9, .ref a17, .ref a18, .int (iI x8), .ref a19, .int (iI x9), .int r10, .ref a20, .ref a21, .int (iI x10), .int r11, .ref a22, .int (iI x11), .int (iI x12), .int (iI x13), .int (iI x14)]))]) M w 3 rfl (iI_in (by omega) (by omega) (by decide)) (by rw [cI_up (by omega) (by omega)]; rfl) dX12_readBookLine_139 (fun H locs w => ?_)
              refine lv_aload_n hx hb dX12_readBookLine_140 rfl (lv_at hl 3 rfl) ?_
              refine r_get (v := .ref a20) M w 4 41 clX12 rfl (by decide) G1504 rfl rfl dX12_readBookLine_141 ?_
              refine lv_iload_n hx hb dX12_readBookLine_144 rfl (lv_at hl 0 rfl) ?_
              refine lv_iconst (v := iI 2) hx hb dX12_readBookLine_145 (by decide +kernel) ?_
              refine r_iadd (v := iI ((4 * x10) + 2)) M (iI_add _ _) dX12_readBookLine_146 ?_
              refine lv_iconst (v := iI 0) hx hb dX12_readBookLine_147 (by decide +kernel) ?_
              refine r_iast (ws' := [(a1, .inl (T 0, 940, .inl f0)), (a2, .inl (T 0, 329, .inl (cI f1))), (a7, .inl (T 1, 12, .inr (.inl h0))), (a20, .inl (T 0, 160, .inl (cI (upz (upz (upz f2 (4 * x10) 3) ((4 * x10) + 1) 0) ((4 * x10) + 2) 0)))), (a0, .inr (11, [.int r0, .ref a1, .int (iI x0), .int (iI x1), .int r1, .int (iI x2), .int r2, .int (iI x3), .int (iI x4), .int r3, .int r4, .int r5, .long y0, .int (iI x5), .ref a2, .ref a3, .ref a4, .ref a5, .ref a6, .ref a7, .ref a8, .ref a9, .ref a10, .ref a11, .int (iI x6), .ref a12, .ref a13, .ref a14, .ref a15, .int (iI x7), .int r6, .int r7, .ref a16, .int r8, .int r9, .ref a17, .ref a18, .int (iI x8), .ref a19, .int (iI x9), .int r10, .ref a20, .ref a21, .int (iI x10), .int r11, .ref a22, .int (iI x11), .int (iI x12), .int (iI x13), .int (iI x14)]))]) M w 3 rfl (iI_in (by omega) (by omega) (by decide)) (by rw [cI_up (by omega) (by omega)]; rfl) dX12_readBookLine_148 (fun H locs w => ?_)
              refine lv_aload_n hx hb dX12_readBookLine_149 rfl (lv_at hl 3 rfl) ?_
              refine r_get (v := .ref a20) M w 4 41 clX12 rfl (by decide) G1504 rfl rfl dX12_readBookLine_150 ?_
              refine lv_iload_n hx hb dX12_readBookLine_153 rfl (lv_at hl 0 rfl) ?_
              refine lv_iconst (v := iI 3) hx hb dX12_readBookLine_154 (by decide +kernel) ?_
              refine r_iadd (v := iI ((4 * x10) + 3)) M (iI_add _ _) dX12_readBookLine_155 ?_
              refine lv_iconst (v := iI 0) hx hb dX12_readBookLine_156 (by decide +kernel) ?_
              refine r_iast (ws' := [(a1, .inl (T 0, 940, .inl f0)), (a2, .inl (T 0, 329, .inl (cI f1))), (a7, .inl (T 1, 12, .inr (.inl h0))), (a20, .inl (T 0, 160, .inl (cI (upz (upz (upz (upz f2 (4 * x10) 3) ((4 * x10) + 1) 0) ((4 * x10) + 2) 0) ((4 * x10) + 3) 0)))), (a0, .inr (11, [.int r0, .ref a1, .int (iI x0), .int (iI x1), .int r1, .int (iI x2), .int r2, .int (iI x3), .int (iI x4), .int r3, .int r4, .int r5, .long y0, .int (iI x5), .ref a2, .ref a3, .ref a4, .ref a5, .ref a6, .ref a7, .ref a8, .ref a9, .ref a10, .ref a11, .int (iI x6), .ref a12, .ref a13, .ref a14, .ref a15, .int (iI x7), .int r6, .int r7, .ref a16, .int r8, .int r9, .ref a17, .ref a18, .int (iI x8), .ref a19, .int (iI x9), .int r10, .ref a20, .ref a21, .int (iI x10), .int r11, .ref a22, .int (iI x11), .int (iI x12), .int (iI x13), .int (iI x14)]))]) M w 3 rfl (iI_in (by omega) (by omega) (by decide)) (by rw [cI_up (by omega) (by omega)]; rfl) dX12_readBookLine_157 (fun H locs w => ?_)
              refine lv_aload_n hx hb dX12_readBookLine_158 rfl (lv_at hl 3 rfl) ?_
              refine k_V (ce := 0) (sl := 0) (rest := []) (wr := [(a2, .inl (T 0, 329, .inl (cI f1))), (a7, .inl (T 1, 12, .inr (.inl h0))), (a20, .inl (T 0, 160, .inl (cI (upz (upz (upz (upz f2 (4 * x10) 3) ((4 * x10) + 1) 0) ((4 * x10) + 2) 0) ((4 * x10) + 3) 0))))]) (r_V (f := 1) [4, 0] M w V_HookedCityModel_82 G1629 G49 (c12_X12_go l D T _ a0 r0 a1 x0 x1 r1 x2 r2 x3 x4 r3 r4 r5 y0 x5 a2 a3 a4 a5 a6 a7 a8 a9 a10 a11 x6 a12 a13 a14 a15 x7 r6 r7 a16 r8 r9 a17 a18 x8 a19 x9 r10 a20 a21 x10 r11 a22 x11 x12 x13 x14 f0 x0_a x0_b x1_a x1_b x2_a x2_b x3_a x3_b x4_a x4_b x5_a x5_b x6_a x6_b x7_a x7_b x8_a x8_b x9_a x9_b x10_a x10_b x11_a x11_b x12_a x12_b x13_a x13_b x14_a x14_b) 4 clX12 rfl rfl (by decide) rfl hl.1 rfl (Nat.le_of_ble_eq_true rfl) dX12_readBookLine_159 (by decide) (by decide) (by decide) (by decide)) w [4, 0] [1, 2, 3] rfl rfl (by decide) (by decide) rfl rfl (fun u H locs hp w => ?_)
              obtain ⟨z55, fr56, z57, z58, fr59, fy60⟩ := u
              have z55_a : 0 ≤ z55 := hp.1
              have z55_b : z55 ≤ 940 := hp.2.1
              have z57_a : 0 ≤ z57 := hp.2.2.1
              have z57_b : z57 ≤ 4 := hp.2.2.2.1
              have z58_a : (-2147483648) ≤ z58 := hp.2.2.2.2.1
              have z58_b : z58 ≤ 2147483647 := hp.2.2.2.2.2.1
              have ee61 : 0 ≤ (z55 - x2) := hp.2.2.2.2.2.2.1
              have ee62 : 0 ≤ (((z55 - x2) - z57) + 3) := hp.2.2.2.2.2.2.2
              have w : WD D A s.heap [(a2, .inl (T 0, 329, .inl (cI f1))), (a7, .inl (T 1, 12, .inr (.inl h0))), (a20, .inl (T 0, 160, .inl (cI (upz (upz (upz (upz f2 (4 * x10) 3) ((4 * x10) + 1) 0) ((4 * x10) + 2) 0) ((4 * x10) + 3) 0)))), (a0, .inr (11, [.int r0, .ref a1, .int (iI x0), .int (iI x1), .int r1, .int (iI z55), .int fr56, .int (iI z57), .int (iI z58), .int fr59, .int r4, .int r5, .long fy60, .int (iI x5), .ref a2, .ref a3, .ref a4, .ref a5, .ref a6, .ref a7, .ref a8, .ref a9, .ref a10, .ref a11, .int (iI x6), .ref a12, .ref a13, .ref a14, .ref a15, .int (iI x7), .int r6, .int r7, .ref a16, .int r8, .int r9, .ref a17, .ref a18, .int (iI x8), .ref a19, .int (iI x9), .int r10, .ref a20, .ref a21, .int (iI x10), .int r11, .ref a22, .int (iI x11), .int (iI x12), .int (iI x13), .int (iI x14)])), (a1, .inl (T 0, 940, .inl f0))] H locs := w
              refine lv_iload_n hx hb dX12_readBookLine_162 rfl (lv_at hl 2 rfl) ?_
              refine lv_if_eq (tgt := 193) hx hb dX12_readBookLine_163 (by decide) (fun c_63 => ?_) (fun c_63 => ?_)
              · replace c_63 := (iz_eq (Int.le_trans (by decide) z1_a) (Int.le_trans z1_b (by decide))).mp c_63
                refine lv_iload_n hx hb dX12_readBookLine_193 rfl (lv_at hl 1 rfl) ?_
                refine lv_if_eq (tgt := 217) hx hb dX12_readBookLine_194 (by decide) (fun c_64 => ?_) (fun c_64 => ?_)
                · replace c_64 := (iz_eq (Int.le_trans (by decide) z2_a) (Int.le_trans z2_b (by decide))).mp c_64
                  exfalso; omega
                · replace c_64 : ¬ z2 = 0 := fun h => c_64 ((iz_eq (Int.le_trans (by decide) z2_a) (Int.le_trans z2_b (by decide))).mpr h)
                  refine lv_aload_n hx hb dX12_readBookLine_197 rfl (lv_at hl 3 rfl) ?_
                  refine lv_iload_n hx hb dX12_readBookLine_198 rfl (lv_at hl 0 rfl) ?_
                  refine lv_iconst (v := iI 1) hx hb dX12_readBookLine_199 (by decide +kernel) ?_
                  refine r_iadd (v := iI ((4 * x10) + 1)) M (iI_add _ _) dX12_readBookLine_200 ?_
                  refine lv_aload_n hx hb dX12_readBookLine_201 rfl (lv_at hl 3 rfl) ?_
                  refine lv_iconst (v := iI 1) hx hb dX12_readBookLine_202 (by decide +kernel) ?_
                  refine lv_bipush (v := iI 60) hx hb dX12_readBookLine_203 (by decide +kernel) ?_
                  refine k_I (ce := 0) (sl := 0) (rest := [.int (iI ((4 * x10) + 1)), .ref a0]) (wr := [(a2, .inl (T 0, 329, .inl (cI f1))), (a7, .inl (T 1, 12, .inr (.inl h0))), (a20, .inl (T 0, 160, .inl (cI (upz (upz (upz (upz f2 (4 * x10) 3) ((4 * x10) + 1) 0) ((4 * x10) + 2) 0) ((4 * x10) + 3) 0))))]) (r_V (f := 2) [3, 4] M w V_HookedCityModel_200 G1690 G60 (c19_X12_readNumber l D T _ a0 1 60 r0 a1 x0 x1 r1 z55 fr56 z57 z58 fr59 r4 r5 fy60 x5 a2 a3 a4 a5 a6 a7 a8 a9 a10 a11 x6 a12 a13 a14 a15 x7 r6 r7 a16 r8 r9 a17 a18 x8 a19 x9 r10 a20 a21 x10 r11 a22 x11 x12 x13 x14 f0 (by decide) (by decide) (by decide) (by decide) x0_a x0_b x1_a x1_b z55_a z55_b z57_a z57_b z58_a z58_b x5_a x5_b x6_a x6_b x7_a x7_b x8_a x8_b x9_a x9_b x10_a x10_b x11_a x11_b x12_a x12_b x13_a x13_b x14_a x14_b) 3 clX12 rfl rfl (by decide) rfl hl.1 rfl (Nat.le_of_ble_eq_true rfl) dX12_readBookLine_205 (by decide) (by decide) (by decide) (by decide)) w [3, 4] [0, 1, 2] rfl rfl (by decide) (by decide) rfl rfl (fun v u H locs hp w => ?_)
                  obtain ⟨z65, z66, fr67, z68, z69, fr70, fr71, fr72, fy73, z74⟩ := u
                  have hv : iI z65 = v := hp.1
                  subst hv
                  have z65_a : 0 ≤ z65 := hp.2.1
                  have z65_b : z65 ≤ 1 := hp.2.2.1
                  have z66_a : 0 ≤ z66 := hp.2.2.2.1
                  have z66_b : z66 ≤ 940 := hp.2.2.2.2.1
                  have z68_a : 0 ≤ z68 := hp.2.2.2.2.2.1
                  have z68_b : z68 ≤ 4 := hp.2.2.2.2.2.2.1
                  have z69_a : (-2147483648) ≤ z69 := hp.2.2.2.2.2.2.2.1
                  have z69_b : z69 ≤ 2147483647 := hp.2.2.2.2.2.2.2.2.1
                  have z74_a : (-2147483648) ≤ z74 := hp.2.2.2.2.2.2.2.2.2.1
                  have z74_b : z74 ≤ 2147483647 := hp.2.2.2.2.2.2.2.2.2.2.1
                  have ee75 : 0 ≤ (z66 - z55) := hp.2.2.2.2.2.2.2.2.2.2.2.1
                  have ee76 : 0 ≤ ((((z66 - z55) - z68) + 4) - z65) := hp.2.2.2.2.2.2.2.2.2.2.2.2.1
                  have ee77 : 0 ≤ (((z74 - 1) + 4294967296) - (z65 * 4294967296)) := hp.2.2.2.2.2.2.2.2.2.2.2.2.2.1
                  have ee78 : 0 ≤ (((60 - z74) + 4294967296) - (z65 * 4294967296)) := hp.2.2.2.2.2.2.2.2.2.2.2.2.2.2
                  have w : WD D A s.heap [(a2, .inl (T 0, 329, .inl (cI f1))), (a7, .inl (T 1, 12, .inr (.inl h0))), (a20, .inl (T 0, 160, .inl (cI (upz (upz (upz (upz f2 (4 * x10) 3) ((4 * x10) + 1) 0) ((4 * x10) + 2) 0) ((4 * x10) + 3) 0)))), (a0, .inr (11, [.int r0, .ref a1, .int (iI x0), .int (iI x1), .int r1, .int (iI z66), .int fr67, .int (iI z68), .int (iI z69), .int fr70, .int fr71, .int fr72, .long fy73, .int (iI z74), .ref a2, .ref a3, .ref a4, .ref a5, .ref a6, .ref a7, .ref a8, .ref a9, .ref a10, .ref a11, .int (iI x6), .ref a12, .ref a13, .ref a14, .ref a15, .int (iI x7), .int r6, .int r7, .ref a16, .int r8, .int r9, .ref a17, .ref a18, .int (iI x8), .ref a19, .int (iI x9), .int r10, .ref a20, .ref a21, .int (iI x10), .int r11, .ref a22, .int (iI x11), .int (iI x12), .int (iI x13), .int (iI x14)])), (a1, .inl (T 0, 940, .inl f0))] H locs := w
                  refine k_I (ce := 0) (sl := 0) (rest := []) (wr := [(a2, .inl (T 0, 329, .inl (cI f1))), (a7, .inl (T 1, 12, .inr (.inl h0))), (a1, .inl (T 0, 940, .inl f0))]) (r_V (f := 0) [3, 2] M w V_HookedCityModel_373 G1993 G105 (c105_X12_keep l D T _ a0 ((4 * x10) + 1) z65 r0 a1 x0 x1 r1 z66 fr67 z68 z69 fr70 fr71 fr72 fy73 z74 a2 a3 a4 a5 a6 a7 a8 a9 a10 a11 x6 a12 a13 a14 a15 x7 r6 r7 a16 r8 r9 a17 a18 x8 a19 x9 r10 a20 a21 x10 r11 a22 x11 x12 x13 x14 (upz (upz (upz (upz f2 (4 * x10) 3) ((4 * x10) + 1) 0) ((4 * x10) + 2) 0) ((4 * x10) + 3) 0) (by omega) (by omega) z65_a z65_b x0_a x0_b x1_a x1_b z66_a z66_b z68_a z68_b z69_a z69_b z74_a z74_b x6_a x6_b x7_a x7_b x8_a x8_b x9_a x9_b x10_a x10_b x11_a x11_b x12_a x12_b x13_a x13_b x14_a x14_b (ln_s f2_h (n := x10) (by omega) (by omega) (by unfold lok; omega) ⟨by omega, by omega⟩ rfl) (fun h => ln_x (ln_s f2_h (n := x10) (by omega) (by omega) (by unfold lok; omega) ⟨by omega, by omega⟩ rfl) (n := x10) (by omega) (by omega) (by omega) (by omega) (by omega) (Or.inl (by rw [upz_n (by omega), upz_n (by omega), upz_n (by omega), upz_s])))) 3 clX12 rfl rfl (by decide) rfl hl.1 rfl (Nat.le_of_ble_eq_true rfl) dX12_readBookLine_208 (by decide) (by decide) (by decide) (by decide)) w [3, 2] [0, 1, 4] rfl rfl (by decide) (by decide) rfl rfl (fun v u H locs hp w => ?_)
                  obtain ⟨z79, ff80⟩ := u
                  have hv : iI z79 = v := hp.1
                  subst hv
                  have z79_a : 0 ≤ z79 := hp.2.1
                  have z79_b : z79 ≤ 1 := hp.2.2.1
                  have ff80_h : lnI ff80 := hp.2.2.2.1
                  have ee81 : 0 ≤ (z65 - z79) := hp.2.2.2.2.1
                  have ee82 : 0 ≤ (z79 - z65) := hp.2.2.2.2.2
                  have w : WD D A s.heap [(a2, .inl (T 0, 329, .inl (cI f1))), (a7, .inl (T 1, 12, .inr (.inl h0))), (a1, .inl (T 0, 940, .inl f0)), (a0, .inr (11, [.int r0, .ref a1, .int (iI x0), .int (iI x1), .int r1, .int (iI z66), .int fr67, .int (iI z68), .int (iI z69), .int fr70, .int fr71, .int fr72, .long fy73, .int (iI z74), .ref a2, .ref a3, .ref a4, .ref a5, .ref a6, .ref a7, .ref a8, .ref a9, .ref a10, .ref a11, .int (iI x6), .ref a12, .ref a13, .ref a14, .ref a15, .int (iI x7), .int r6, .int r7, .ref a16, .int r8, .int r9, .ref a17, .ref a18, .int (iI x8), .ref a19, .int (iI x9), .int r10, .ref a20, .ref a21, .int (iI x10), .int r11, .ref a22, .int (iI x11), .int (iI x12), .int (iI x13), .int (iI x14)])), (a20, .inl (T 0, 160, .inl (cI ff80)))] H locs := w
                  refine lv_if_eq (tgt := 236) hx hb dX12_readBookLine_211 (by decide) (fun c_83 => ?_) (fun c_83 => ?_)
                  · replace c_83 := (iz_eq (Int.le_trans (by decide) z79_a) (Int.le_trans z79_b (by decide))).mp c_83
                    refine lv_iconst (v := iI 0) hx hb dX12_readBookLine_236 (by decide +kernel) ?_
                    exact ret _ (0, z66, fr67, z68, z69, fr70, fr71, fr72, fy73, z74, ff80) _ _ _ _ _ [3, 2, 0, 1, 4] dX12_readBookLine_237 (by decide +kernel) ⟨rfl, (show (0 : Int) ≤ 0 from by decide), (show (0 : Int) ≤ 1 from by decide), z66_a, z66_b, z68_a, z68_b, z69_a, z69_b, z74_a, z74_b, ff80_h, (show 0 ≤ ((z66 - x2) - 0) from by omega), (show 0 ≤ ((79 - x10) - (0 * 40)) from by omega)⟩ w (by decide) rfl
                  · replace c_83 : ¬ z79 = 0 := fun h => c_83 ((iz_eq (Int.le_trans (by decide) z79_a) (Int.le_trans z79_b (by decide))).mpr h)
                    refine lv_goto (tgt := 225) hx hb dX12_readBookLine_214 (by decide) ?_
                    refine lv_aload_n hx hb dX12_readBookLine_225 rfl (lv_at hl 3 rfl) ?_
                    refine k_I (ce := 0) (sl := 0) (rest := []) (wr := [(a2, .inl (T 0, 329, .inl (cI f1))), (a7, .inl (T 1, 12, .inr (.inl h0))), (a20, .inl (T 0, 160, .inl (cI ff80)))]) (r_V (f := 2) [3, 2] M w V_HookedCityModel_230 G1720 G66 (c20_X12_readEnd l D T _ a0 r0 a1 x0 x1 r1 z66 fr67 z68 z69 fr70 fr71 fr72 fy73 z74 a2 a3 a4 a5 a6 a7 a8 a9 a10 a11 x6 a12 a13 a14 a15 x7 r6 r7 a16 r8 r9 a17 a18 x8 a19 x9 r10 a20 a21 x10 r11 a22 x11 x12 x13 x14 f0 x0_a x0_b x1_a x1_b z66_a z66_b z68_a z68_b z69_a z69_b z74_a z74_b x6_a x6_b x7_a x7_b x8_a x8_b x9_a x9_b x10_a x10_b x11_a x11_b x12_a x12_b x13_a x13_b x14_a x14_b) 3 clX12 rfl rfl (by decide) rfl hl.1 rfl (Nat.le_of_ble_eq_true rfl) dX12_readBookLine_226 (by decide) (by decide) (by decide) (by decide)) w [3, 2] [0, 1, 4] rfl rfl (by decide) (by decide) rfl rfl (fun v u H locs hp w => ?_)
                    obtain ⟨z84, z85, fr86, z87, z88, fr89, fr90, fr91, fy92⟩ := u
                    have hv : iI z84 = v := hp.1
                    subst hv
                    have z84_a : 0 ≤ z84 := hp.2.1
                    have z84_b : z84 ≤ 1 := hp.2.2.1
                    have z85_a : 0 ≤ z85 := hp.2.2.2.1
                    have z85_b : z85 ≤ 940 := hp.2.2.2.2.1
                    have z87_a : 0 ≤ z87 := hp.2.2.2.2.2.1
                    have z87_b : z87 ≤ 4 := hp.2.2.2.2.2.2.1
                    have z88_a : (-2147483648) ≤ z88 := hp.2.2.2.2.2.2.2.1
                    have z88_b : z88 ≤ 2147483647 := hp.2.2.2.2.2.2.2.2.1
                    have ee93 : 0 ≤ (z85 - z66) := hp.2.2.2.2.2.2.2.2.2.1
                    have ee94 : 0 ≤ (z68 - (z84 * 4)) := hp.2.2.2.2.2.2.2.2.2.2
                    have w : WD D A s.heap [(a2, .inl (T 0, 329, .inl (cI f1))), (a7, .inl (T 1, 12, .inr (.inl h0))), (a20, .inl (T 0, 160, .inl (cI ff80))), (a0, .inr (11, [.int r0, .ref a1, .int (iI x0), .int (iI x1), .int r1, .int (iI z85), .int fr86, .int (iI z87), .int (iI z88), .int fr89, .int fr90, .int fr91, .long fy92, .int (iI z74), .ref a2, .ref a3, .ref a4, .ref a5, .ref a6, .ref a7, .ref a8, .ref a9, .ref a10, .ref a11, .int (iI x6), .ref a12, .ref a13, .ref a14, .ref a15, .int (iI x7), .int r6, .int r7, .ref a16, .int r8, .int r9, .ref a17, .ref a18, .int (iI x8), .ref a19, .int (iI x9), .int r10, .ref a20, .ref a21, .int (iI x10), .int r11, .ref a22, .int (iI x11), .int (iI x12), .int (iI x13), .int (iI x14)])), (a1, .inl (T 0, 940, .inl f0))] H locs := w
                    refine lv_if_eq (tgt := 236) hx hb dX12_readBookLine_229 (by decide) (fun c_95 => ?_) (fun c_95 => ?_)
                    · replace c_95 := (iz_eq (Int.le_trans (by decide) z84_a) (Int.le_trans z84_b (by decide))).mp c_95
                      refine lv_iconst (v := iI 0) hx hb dX12_readBookLine_236 (by decide +kernel) ?_
                      exact ret _ (0, z85, fr86, z87, z88, fr89, fr90, fr91, fy92, z74, ff80) _ _ _ _ _ [3, 4, 0, 1, 2] dX12_readBookLine_237 (by decide +kernel) ⟨rfl, (show (0 : Int) ≤ 0 from by decide), (show (0 : Int) ≤ 1 from by decide), z85_a, z85_b, z87_a, z87_b, z88_a, z88_b, z74_a, z74_b, ff80_h, (show 0 ≤ ((z85 - x2) - 0) from by omega), (show 0 ≤ ((79 - x10) - (0 * 40)) from by omega)⟩ w (by decide) rfl
                    · replace c_95 : ¬ z84 = 0 := fun h => c_95 ((iz_eq (Int.le_trans (by decide) z84_a) (Int.le_trans z84_b (by decide))).mpr h)
                      refine lv_iconst (v := iI 1) hx hb dX12_readBookLine_232 (by decide +kernel) ?_
                      refine lv_goto (tgt := 237) hx hb dX12_readBookLine_233 (by decide) ?_
                      exact ret _ (1, z85, fr86, z87, z88, fr89, fr90, fr91, fy92, z74, ff80) _ _ _ _ _ [3, 4, 0, 1, 2] dX12_readBookLine_237 (by decide +kernel) ⟨rfl, (show (0 : Int) ≤ 1 from by decide), (show (1 : Int) ≤ 1 from by decide), z85_a, z85_b, z87_a, z87_b, z88_a, z88_b, z74_a, z74_b, ff80_h, (show 0 ≤ ((z85 - x2) - 1) from by omega), (show 0 ≤ ((79 - x10) - (1 * 40)) from by omega)⟩ w (by decide) rfl
              · replace c_63 : ¬ z1 = 0 := fun h => c_63 ((iz_eq (Int.le_trans (by decide) z1_a) (Int.le_trans z1_b (by decide))).mpr h)
                exfalso; omega
        · replace c_52 : ¬ z1 = 0 := fun h => c_52 ((iz_eq (Int.le_trans (by decide) z1_a) (Int.le_trans z1_b (by decide))).mpr h)
          exfalso; omega
      · replace c_51 := (iI_eq (Int.le_trans (by decide) x10_a) (Int.le_trans x10_b (by decide)) (by decide) (by decide)).mp c_51
        refine lv_aload_n hx hb dX12_readBookLine_73 rfl (lv_at hl 2 rfl) ?_
        refine lv_iconst (v := iI 4) hx hb dX12_readBookLine_74 (by decide +kernel) ?_
        refine k_I (ce := 0) (sl := 0) (rest := []) (wr := [(a1, .inl (T 0, 940, .inl f0)), (a2, .inl (T 0, 329, .inl (cI f1))), (a7, .inl (T 1, 12, .inr (.inl h0))), (a20, .inl (T 0, 160, .inl (cI f2)))]) (r_V (f := 0) [4] M w V_HookedCityModel_72 G1667 G55 (c18_X12_bad l D T _ a0 4 r0 a1 x0 x1 r1 x2 r2 x3 x4 r3 r4 r5 y0 x5 a2 a3 a4 a5 a6 a7 a8 a9 a10 a11 x6 a12 a13 a14 a15 x7 r6 r7 a16 r8 r9 a17 a18 x8 a19 x9 r10 a20 a21 x10 r11 a22 x11 x12 x13 x14 (by decide) (by decide) x0_a x0_b x1_a x1_b x2_a x2_b x3_a x3_b x4_a x4_b x5_a x5_b x6_a x6_b x7_a x7_b x8_a x8_b x9_a x9_b x10_a x10_b x11_a x11_b x12_a x12_b x13_a x13_b x14_a x14_b) 4 clX12 rfl rfl (by decide) rfl hl.1 rfl (Nat.le_of_ble_eq_true rfl) dX12_readBookLine_75 (by decide) (by decide) (by decide) (by decide)) w [4] [0, 1, 2, 3] rfl rfl (by decide) (by decide) rfl rfl (fun v u H locs hp w => ?_)
        obtain ⟨z96, fr97, fr98⟩ := u
        have hv : iI z96 = v := hp.1
        subst hv
        have z96_a : 0 ≤ z96 := hp.2.1
        have z96_b : z96 ≤ 1 := hp.2.2.1
        have w : WD D A s.heap [(a1, .inl (T 0, 940, .inl f0)), (a2, .inl (T 0, 329, .inl (cI f1))), (a7, .inl (T 1, 12, .inr (.inl h0))), (a20, .inl (T 0, 160, .inl (cI f2))), (a0, .inr (11, [.int r0, .ref a1, .int (iI x0), .int (iI x1), .int r1, .int (iI x2), .int r2, .int (iI x3), .int (iI x4), .int r3, .int fr97, .int fr98, .long y0, .int (iI x5), .ref a2, .ref a3, .ref a4, .ref a5, .ref a6, .ref a7, .ref a8, .ref a9, .ref a10, .ref a11, .int (iI x6), .ref a12, .ref a13, .ref a14, .ref a15, .int (iI x7), .int r6, .int r7, .ref a16, .int r8, .int r9, .ref a17, .ref a18, .int (iI x8), .ref a19, .int (iI x9), .int r10, .ref a20, .ref a21, .int (iI x10), .int r11, .ref a22, .int (iI x11), .int (iI x12), .int (iI x13), .int (iI x14)]))] H locs := w
        rcases hp.2.2.2 with hr
        · subst hr
          exact ret _ (0, x2, r2, x3, x4, r3, fr97, fr98, y0, x5, f2) _ _ _ _ _ [4, 0, 1, 2, 3] dX12_readBookLine_78 (by decide +kernel) ⟨rfl, (show (0 : Int) ≤ 0 from by decide), (show (0 : Int) ≤ 1 from by decide), x2_a, x2_b, x3_a, x3_b, x4_a, x4_b, x5_a, x5_b, f2_h, (show 0 ≤ ((x2 - x2) - 0) from by omega), (show 0 ≤ ((79 - x10) - (0 * 40)) from by omega)⟩ w (by decide) rfl
    · replace c_50 := (iz_eq (Int.le_trans (by decide) z2_a) (Int.le_trans z2_b (by decide))).mp c_50
      refine lv_aload_n hx hb dX12_readBookLine_22 rfl (lv_at hl 2 rfl) ?_
      refine k_I (ce := 0) (sl := 0) (rest := []) (wr := [(a1, .inl (T 0, 940, .inl f0)), (a2, .inl (T 0, 329, .inl (cI f1))), (a7, .inl (T 1, 12, .inr (.inl h0))), (a20, .inl (T 0, 160, .inl (cI f2)))]) (r_V (f := 2) [4] M w V_HookedCityModel_175 G1675 G57 (c17_X12_isName l D T _ a0 r0 a1 x0 x1 r1 x2 r2 x3 x4 r3 r4 r5 y0 x5 a2 a3 a4 a5 a6 a7 a8 a9 a10 a11 x6 a12 a13 a14 a15 x7 r6 r7 a16 r8 r9 a17 a18 x8 a19 x9 r10 a20 a21 x10 r11 a22 x11 x12 x13 x14 x0_a x0_b x1_a x1_b x2_a x2_b x3_a x3_b x4_a x4_b x5_a x5_b x6_a x6_b x7_a x7_b x8_a x8_b x9_a x9_b x10_a x10_b x11_a x11_b x12_a x12_b x13_a x13_b x14_a x14_b) 4 clX12 rfl rfl (by decide) rfl hl.1 rfl (Nat.le_of_ble_eq_true rfl) dX12_readBookLine_23 (by decide) (by decide) (by decide) (by decide)) w [4] [0, 1, 2, 3] rfl rfl (by decide) (by decide) rfl rfl (fun v z99 H locs hp w => ?_)
      have hv : iI z99 = v := hp.1
      subst hv
      have z99_a : 0 ≤ z99 := hp.2.1
      have z99_b : z99 ≤ 1 := hp.2.2
      have w : WD D A s.heap [(a1, .inl (T 0, 940, .inl f0)), (a2, .inl (T 0, 329, .inl (cI f1))), (a7, .inl (T 1, 12, .inr (.inl h0))), (a20, .inl (T 0, 160, .inl (cI f2))), (a0, .inr (11, [.int r0, .ref a1, .int (iI x0), .int (iI x1), .int r1, .int (iI x2), .int r2, .int (iI x3), .int (iI x4), .int r3, .int r4, .int r5, .long y0, .int (iI x5), .ref a2, .ref a3, .ref a4, .ref a5, .ref a6, .ref a7, .ref a8, .ref a9, .ref a10, .ref a11, .int (iI x6), .ref a12, .ref a13, .ref a14, .ref a15, .int (iI x7), .int r6, .int r7, .ref a16, .int r8, .int r9, .ref a17, .ref a18, .int (iI x8), .ref a19, .int (iI x9), .int r10, .ref a20, .ref a21, .int (iI x10), .int r11, .ref a22, .int (iI x11), .int (iI x12), .int (iI x13), .int (iI x14)]))] H locs := w
      refine lv_if_ne (tgt := 35) hx hb dX12_readBookLine_26 (by decide) (fun c_100 => ?_) (fun c_100 => ?_)
      · replace c_100 : ¬ z99 = 0 := fun h => c_100 ((iz_eq (Int.le_trans (by decide) z99_a) (Int.le_trans z99_b (by decide))).mpr h)
        refine lv_aload_n hx hb dX12_readBookLine_35 rfl (lv_at hl 2 rfl) ?_
        refine r_get (v := .ref a7) M w 4 19 clX12 rfl (by decide) G1482 rfl rfl dX12_readBookLine_36 ?_
        refine lv_bipush (v := iI 9) hx hb dX12_readBookLine_39 (by decide +kernel) ?_
        refine lv_aload_n hx hb dX12_readBookLine_41 rfl (lv_at hl 2 rfl) ?_
        refine r_get (v := .ref a2) M w 4 14 clX12 rfl (by decide) G1477 rfl rfl dX12_readBookLine_42 ?_
        refine lv_iconst (v := iI 1) hx hb dX12_readBookLine_45 (by decide +kernel) ?_
        refine r_iald (v := iI (f1 1)) M w 1 rfl (iI_in (by decide) (by decide) (by decide)) (cI_at (by omega) (by omega)) dX12_readBookLine_46 ?_
        have hh101 : (-2147483648) ≤ (f1 1) ∧ (f1 1) ≤ 2147483647 := f1_h.1 1
        have hh102 : 0 ≤ (f1 1) ∧ (f1 1) ≤ 3 := (f1_h.2.1 1).2.1 (by omega)
        refine lv_aload_n hx hb dX12_readBookLine_47 rfl (lv_at hl 2 rfl) ?_
        refine r_get (v := .long y0) M w 4 12 clX12 rfl (by decide) G1475 rfl rfl dX12_readBookLine_48 ?_
        refine k_I (ce := 0) (sl := 0) (rest := []) (wr := [(a1, .inl (T 0, 940, .inl f0)), (a2, .inl (T 0, 329, .inl (cI f1))), (a20, .inl (T 0, 160, .inl (cI f2))), (a0, .inr (11, [.int r0, .ref a1, .int (iI x0), .int (iI x1), .int r1, .int (iI x2), .int r2, .int (iI x3), .int (iI x4), .int r3, .int r4, .int r5, .long y0, .int (iI x5), .ref a2, .ref a3, .ref a4, .ref a5, .ref a6, .ref a7, .ref a8, .ref a9, .ref a10, .ref a11, .int (iI x6), .ref a12, .ref a13, .ref a14, .ref a15, .int (iI x7), .int r6, .int r7, .ref a16, .int r8, .int r9, .ref a17, .ref a18, .int (iI x8), .ref a19, .int (iI x9), .int r10, .ref a20, .ref a21, .int (iI x10), .int r11, .ref a22, .int (iI x11), .int (iI x12), .int (iI x13), .int (iI x14)]))]) (r_S (f := 0) [2] M w V_HookedCityModel_179 G1678 (c25_X12_findIn l D T _ a7 (f1 1) y0 h0 (by omega) (by omega)) rfl (by decide) rfl hl.1 rfl (Nat.le_of_ble_eq_true rfl) dX12_readBookLine_51 (by decide) (by decide) (by decide) (by decide)) w [2] [0, 1, 3, 4] rfl rfl (by decide) (by decide) rfl rfl (fun v z103 H locs hp w => ?_)
        have hv : iI z103 = v := hp.1
        subst hv
        have z103_a : (-1) ≤ z103 := hp.2.1
        have z103_b : z103 ≤ 2 := hp.2.2.1
        have ee104 : 0 ≤ (((f1 1) - z103) - 1) := hp.2.2.2.1
        have pq105 : z103 = FI h0 9 (f1 1) y0 := hp.2.2.2.2
        have w : WD D A s.heap [(a1, .inl (T 0, 940, .inl f0)), (a2, .inl (T 0, 329, .inl (cI f1))), (a20, .inl (T 0, 160, .inl (cI f2))), (a0, .inr (11, [.int r0, .ref a1, .int (iI x0), .int (iI x1), .int r1, .int (iI x2), .int r2, .int (iI x3), .int (iI x4), .int r3, .int r4, .int r5, .long y0, .int (iI x5), .ref a2, .ref a3, .ref a4, .ref a5, .ref a6, .ref a7, .ref a8, .ref a9, .ref a10, .ref a11, .int (iI x6), .ref a12, .ref a13, .ref a14, .ref a15, .int (iI x7), .int r6, .int r7, .ref a16, .int r8, .int r9, .ref a17, .ref a18, .int (iI x8), .ref a19, .int (iI x9), .int r10, .ref a20, .ref a21, .int (iI x10), .int r11, .ref a22, .int (iI x11), .int (iI x12), .int (iI x13), .int (iI x14)])), (a7, .inl (T 1, 12, .inr (.inl h0)))] H locs := w
        refine lv_iconst (v := iI (-1)) hx hb dX12_readBookLine_54 (by decide +kernel) ?_
        refine lv_icmp_ne (tgt := 64) hx hb dX12_readBookLine_55 (by decide) (fun c_106 => ?_) (fun c_106 => ?_)
        · replace c_106 : ¬ z103 = (-1) := fun h => c_106 ((iI_eq (Int.le_trans (by decide) z103_a) (Int.le_trans z103_b (by decide)) (by decide) (by decide)).mpr h)
          refine lv_aload_n hx hb dX12_readBookLine_64 rfl (lv_at hl 2 rfl) ?_
          refine r_get (v := .int (iI x10)) M w 3 43 clX12 rfl (by decide) G1506 rfl rfl dX12_readBookLine_65 ?_
          refine lv_bipush (v := iI 40) hx hb dX12_readBookLine_68 (by decide +kernel) ?_
          refine lv_icmp_ne (tgt := 79) hx hb dX12_readBookLine_70 (by decide) (fun c_107 => ?_) (fun c_107 => ?_)
          · replace c_107 : ¬ x10 = 40 := fun h => c_107 ((iI_eq (Int.le_trans (by decide) x10_a) (Int.le_trans x10_b (by decide)) (by decide) (by decide)).mpr h)
            refine lv_iconst (v := iI 4) hx hb dX12_readBookLine_79 (by decide +kernel) ?_
            refine lv_aload_n hx hb dX12_readBookLine_80 rfl (lv_at hl 2 rfl) ?_
            refine r_get (v := .int (iI x10)) M w 3 43 clX12 rfl (by decide) G1506 rfl rfl dX12_readBookLine_81 ?_
            refine r_imul (v := iI (4 * x10)) M (iI_mul _ _) dX12_readBookLine_84 ?_
            refine lv_istore_n (lv' := [(3, .int (iI (4 * x10))), (2, .int (iI z2)), (1, .int (iI z1)), (0, .ref a0)]) hx hb dX12_readBookLine_85 rfl hl (by decide) rfl (fun ls hl => ?_)
            refine lv_aload_n hx hb dX12_readBookLine_86 rfl (lv_at hl 3 rfl) ?_
            refine r_get (v := .ref a20) M w 3 41 clX12 rfl (by decide) G1504 rfl rfl dX12_readBookLine_87 ?_
            refine lv_iload_n hx hb dX12_readBookLine_90 rfl (lv_at hl 0 rfl) ?_
            refine lv_iload_n hx hb dX12_readBookLine_91 rfl (lv_at hl 2 rfl) ?_
            refine lv_if_eq (tgt := 99) hx hb dX12_readBookLine_92 (by decide) (fun c_108 => ?_) (fun c_108 => ?_)
            · replace c_108 := (iz_eq (Int.le_trans (by decide) z1_a) (Int.le_trans z1_b (by decide))).mp c_108
              refine lv_iconst (v := iI 3) hx hb dX12_readBookLine_99 (by decide +kernel) ?_
              refine r_iast (ws' := [(a1, .inl (T 0, 940, .inl f0)), (a2, .inl (T 0, 329, .inl (cI f1))), (a20, .inl (T 0, 160, .inl (cI (upz f2 (4 * x10) 3)))), (a0, .inr (11, [.int r0, .ref a1, .int (iI x0), .int (iI x1), .int r1, .int (iI x2), .int r2, .int (iI x3), .int (iI x4), .int r3, .int r4, .int r5, .long y0, .int (iI x5), .ref a2, .ref a3, .ref a4, .ref a5, .ref a6, .ref a7, .ref a8, .ref a9, .ref a10, .ref a11, .int (iI x6), .ref a12, .ref a13, .ref a14, .ref a15, .int (iI x7), .int r6, .int r7, .ref a16, .int r8, .int r9, .ref a17, .ref a18, .int (iI x8), .ref a19, .int (iI x9), .int r10, .ref a20, .ref a21, .int (iI x10), .int r11, .ref a22, .int (iI x11), .int (iI x12), .int (iI x13), .int (iI x14)])), (a7, .inl (T 1, 12, .inr (.inl h0)))]) M w 2 rfl (iI_in (by omega) (by omega) (by decide)) (by rw [cI_up (by omega) (by omega)]; rfl) dX12_readBookLine_100 (fun H locs w => ?_)
              refine lv_aload_n hx hb dX12_readBookLine_101 rfl (lv_at hl 3 rfl) ?_
              refine r_get (v := .ref a20) M w 3 41 clX12 rfl (by decide) G1504 rfl rfl dX12_readBookLine_102 ?_
              refine lv_iload_n hx hb dX12_readBookLine_105 rfl (lv_at hl 0 rfl) ?_
              refine lv_iconst (v := iI 1) hx hb dX12_readBookLine_106 (by decide +kernel) ?_
              refine r_iadd (v := iI ((4 * x10) + 1)) M (iI_add _ _) dX12_readBookLine_107 ?_
              refine lv_iload_n hx hb dX12_readBookLine_108 rfl (lv_at hl 2 rfl) ?_
              refine lv_if_ne (tgt := 116) hx hb dX12_readBookLine_109 (by decide) (fun c_109 => ?_) (fun c_109 => ?_)
              · replace c_109 : ¬ z1 = 0 := fun h => c_109 ((iz_eq (Int.le_trans (by decide) z1_a) (Int.le_trans z1_b (by decide))).mpr h)
                exfalso; omega
              · replace c_109 := (iz_eq (Int.le_trans (by decide) z1_a) (Int.le_trans z1_b (by decide))).mp c_109
                refine lv_iload_n hx hb dX12_readBookLine_112 rfl (lv_at hl 1 rfl) ?_
                refine lv_if_eq (tgt := 120) hx hb dX12_readBookLine_113 (by decide) (fun c_110 => ?_) (fun c_110 => ?_)
                · replace c_110 := (iz_eq (Int.le_trans (by decide) z2_a) (Int.le_trans z2_b (by decide))).mp c_110
                  refine lv_aload_n hx hb dX12_readBookLine_120 rfl (lv_at hl 3 rfl) ?_
                  refine r_get (v := .ref a7) M w 3 19 clX12 rfl (by decide) G1482 rfl rfl dX12_readBookLine_121 ?_
                  refine lv_bipush (v := iI 9) hx hb dX12_readBookLine_124 (by decide +kernel) ?_
                  refine lv_aload_n hx hb dX12_readBookLine_126 rfl (lv_at hl 3 rfl) ?_
                  refine r_get (v := .ref a2) M w 3 14 clX12 rfl (by decide) G1477 rfl rfl dX12_readBookLine_127 ?_
                  refine lv_iconst (v := iI 1) hx hb dX12_readBookLine_130 (by decide +kernel) ?_
                  refine r_iald (v := iI (f1 1)) M w 1 rfl (iI_in (by decide) (by decide) (by decide)) (cI_at (by omega) (by omega)) dX12_readBookLine_131 ?_
                  have hh111 : (-2147483648) ≤ (f1 1) ∧ (f1 1) ≤ 2147483647 := f1_h.1 1
                  have hh112 : 0 ≤ (f1 1) ∧ (f1 1) ≤ 3 := (f1_h.2.1 1).2.1 (by omega)
                  refine lv_aload_n hx hb dX12_readBookLine_132 rfl (lv_at hl 3 rfl) ?_
                  refine r_get (v := .long y0) M w 3 12 clX12 rfl (by decide) G1475 rfl rfl dX12_readBookLine_133 ?_
                  refine k_I (ce := 0) (sl := 0) (rest := [.int (iI ((4 * x10) + 1)), .ref a20]) (wr := [(a1, .inl (T 0, 940, .inl f0)), (a2, .inl (T 0, 329, .inl (cI f1))), (a20, .inl (T 0, 160, .inl (cI (upz f2 (4 * x10) 3)))), (a0, .inr (11, [.int r0, .ref a1, .int (iI x0), .int (iI x1), .int r1, .int (iI x2), .int r2, .int (iI x3), .int (iI x4), .int r3, .int r4, .int r5, .long y0, .int (iI x5), .ref a2, .ref a3, .ref a4, .ref a5, .ref a6, .ref a7, .ref a8, .ref a9, .ref a10, .ref a11, .int (iI x6), .ref a12, .ref a13, .ref a14, .ref a15, .int (iI x7), .int r6, .int r7, .ref a16, .int r8, .int r9, .ref a17, .ref a18, .int (iI x8), .ref a19, .int (iI x9), .int r10, .ref a20, .ref a21, .int (iI x10), .int r11, .ref a22, .int (iI x11), .int (iI x12), .int (iI x13), .int (iI x14)]))]) (r_S (f := 0) [4] M w V_HookedCityModel_179 G1678 (c25_X12_findIn l D T _ a7 (f1 1) y0 h0 (by omega) (by omega)) rfl (by decide) rfl hl.1 rfl (Nat.le_of_ble_eq_true rfl) dX12_readBookLine_136 (by decide) (by decide) (by decide) (by decide)) w [4] [0, 1, 2, 3] rfl rfl (by decide) (by decide) rfl rfl (fun v z113 H locs hp w => ?_)
                  have hv : iI z113 = v := hp.1
                  subst hv
                  have z113_a : (-1) ≤ z113 := hp.2.1
                  have z113_b : z113 ≤ 2 := hp.2.2.1
                  have ee114 : 0 ≤ (((f1 1) - z113) - 1) := hp.2.2.2.1
                  have pq115 : z113 = FI h0 9 (f1 1) y0 := hp.2.2.2.2
                  have w : WD D A s.heap [(a1, .inl (T 0, 940, .inl f0)), (a2, .inl (T 0, 329, .inl (cI f1))), (a20, .inl (T 0, 160, .inl (cI (upz f2 (4 * x10) 3)))), (a0, .inr (11, [.int r0, .ref a1, .int (iI x0), .int (iI x1), .int r1, .int (iI x2), .int r2, .int (iI x3), .int (iI x4), .int r3, .int r4, .int r5, .long y0, .int (iI x5), .ref a2, .ref a3, .ref a4, .ref a5, .ref a6, .ref a7, .ref a8, .ref a9, .ref a10, .ref a11, .int (iI x6), .ref a12, .ref a13, .ref a14, .ref a15, .int (iI x7), .int r6, .int r7, .ref a16, .int r8, .int r9, .ref a17, .ref a18, .int (iI x8), .ref a19, .int (iI x9), .int r10, .ref a20, .ref a21, .int (iI x10), .int r11, .ref a22, .int (iI x11), .int (iI x12), .int (iI x13), .int (iI x14)])), (a7, .inl (T 1, 12, .inr (.inl h0)))] H locs := w
                  refine r_iast (ws' := [(a1, .inl (T 0, 940, .inl f0)), (a2, .inl (T 0, 329, .inl (cI f1))), (a20, .inl (T 0, 160, .inl (cI (upz (upz f2 (4 * x10) 3) ((4 * x10) + 1) z113)))), (a0, .inr (11, [.int r0, .ref a1, .int (iI x0), .int (iI x1), .int r1, .int (iI x2), .int r2, .int (iI x3), .int (iI x4), .int r3, .int r4, .int r5, .long y0, .int (iI x5), .ref a2, .ref a3, .ref a4, .ref a5, .ref a6, .ref a7, .ref a8, .ref a9, .ref a10, .ref a11, .int (iI x6), .ref a12, .ref a13, .ref a14, .ref a15, .int (iI x7), .int r6, .int r7, .ref a16, .int r8, .int r9, .ref a17, .ref a18, .int (iI x8), .ref a19, .int (iI x9), .int r10, .ref a20, .ref a21, .int (iI x10), .int r11, .ref a22, .int (iI x11), .int (iI x12), .int (iI x13), .int (iI x14)])), (a7, .inl (T 1, 12, .inr (.inl h0)))]) M w 2 rfl (iI_in (by omega) (by omega) (by decide)) (by rw [cI_up (by omega) (by omega)]; rfl) dX12_readBookLine_139 (fun H locs w => ?_)
                  refine lv_aload_n hx hb dX12_readBookLine_140 rfl (lv_at hl 3 rfl) ?_
                  refine r_get (v := .ref a20) M w 3 41 clX12 rfl (by decide) G1504 rfl rfl dX12_readBookLine_141 ?_
                  refine lv_iload_n hx hb dX12_readBookLine_144 rfl (lv_at hl 0 rfl) ?_
                  refine lv_iconst (v := iI 2) hx hb dX12_readBookLine_145 (by decide +kernel) ?_
                  refine r_iadd (v := iI ((4 * x10) + 2)) M (iI_add _ _) dX12_readBookLine_146 ?_
                  refine lv_iconst (v := iI 0) hx hb dX12_readBookLine_147 (by decide +kernel) ?_
                  refine r_iast (ws' := [(a1, .inl (T 0, 940, .inl f0)), (a2, .inl (T 0, 329, .inl (cI f1))), (a20, .inl (T 0, 160, .inl (cI (upz (upz (upz f2 (4 * x10) 3) ((4 * x10) + 1) z113) ((4 * x10) + 2) 0)))), (a0, .inr (11, [.int r0, .ref a1, .int (iI x0), .int (iI x1), .int r1, .int (iI x2), .int r2, .int (iI x3), .int (iI x4), .int r3, .int r4, .int r5, .long y0, .int (iI x5), .ref a2, .ref a3, .ref a4, .ref a5, .ref a6, .ref a7, .ref a8, .ref a9, .ref a10, .ref a11, .int (iI x6), .ref a12, .ref a13, .ref a14, .ref a15, .int (iI x7), .int r6, .int r7, .ref a16, .int r8, .int r9, .ref a17, .ref a18, .int (iI x8), .ref a19, .int (iI x9), .int r10, .ref a20, .ref a21, .int (iI x10), .int r11, .ref a22, .int (iI x11), .int (iI x12), .int (iI x13), .int (iI x14)])), (a7, .inl (T 1, 12, .inr (.inl h0)))]) M w 2 rfl (iI_in (by omega) (by omega) (by decide)) (by rw [cI_up (by omega) (by omega)]; rfl) dX12_readBookLine_148 (fun H locs w => ?_)
                  refine lv_aload_n hx hb dX12_readBookLine_149 rfl (lv_at hl 3 rfl) ?_
                  refine r_get (v := .ref a20) M w 3 41 clX12 rfl (by decide) G1504 rfl rfl dX12_readBookLine_150 ?_
                  refine lv_iload_n hx hb dX12_readBookLine_153 rfl (lv_at hl 0 rfl) ?_
                  refine lv_iconst (v := iI 3) hx hb dX12_readBookLine_154 (by decide +kernel) ?_
                  refine r_iadd (v := iI ((4 * x10) + 3)) M (iI_add _ _) dX12_readBookLine_155 ?_
                  refine lv_iconst (v := iI 0) hx hb dX12_readBookLine_156 (by decide +kernel) ?_
                  refine r_iast (ws' := [(a1, .inl (T 0, 940, .inl f0)), (a2, .inl (T 0, 329, .inl (cI f1))), (a20, .inl (T 0, 160, .inl (cI (upz (upz (upz (upz f2 (4 * x10) 3) ((4 * x10) + 1) z113) ((4 * x10) + 2) 0) ((4 * x10) + 3) 0)))), (a0, .inr (11, [.int r0, .ref a1, .int (iI x0), .int (iI x1), .int r1, .int (iI x2), .int r2, .int (iI x3), .int (iI x4), .int r3, .int r4, .int r5, .long y0, .int (iI x5), .ref a2, .ref a3, .ref a4, .ref a5, .ref a6, .ref a7, .ref a8, .ref a9, .ref a10, .ref a11, .int (iI x6), .ref a12, .ref a13, .ref a14, .ref a15, .int (iI x7), .int r6, .int r7, .ref a16, .int r8, .int r9, .ref a17, .ref a18, .int (iI x8), .ref a19, .int (iI x9), .int r10, .ref a20, .ref a21, .int (iI x10), .int r11, .ref a22, .int (iI x11), .int (iI x12), .int (iI x13), .int (iI x14)])), (a7, .inl (T 1, 12, .inr (.inl h0)))]) M w 2 rfl (iI_in (by omega) (by omega) (by decide)) (by rw [cI_up (by omega) (by omega)]; rfl) dX12_readBookLine_157 (fun H locs w => ?_)
                  refine lv_aload_n hx hb dX12_readBookLine_158 rfl (lv_at hl 3 rfl) ?_
                  refine k_V (ce := 0) (sl := 0) (rest := []) (wr := [(a2, .inl (T 0, 329, .inl (cI f1))), (a20, .inl (T 0, 160, .inl (cI (upz (upz (upz (upz f2 (4 * x10) 3) ((4 * x10) + 1) z113) ((4 * x10) + 2) 0) ((4 * x10) + 3) 0)))), (a7, .inl (T 1, 12, .inr (.inl h0)))]) (r_V (f := 1) [3, 0] M w V_HookedCityModel_82 G1629 G49 (c12_X12_go l D T _ a0 r0 a1 x0 x1 r1 x2 r2 x3 x4 r3 r4 r5 y0 x5 a2 a3 a4 a5 a6 a7 a8 a9 a10 a11 x6 a12 a13 a14 a15 x7 r6 r7 a16 r8 r9 a17 a18 x8 a19 x9 r10 a20 a21 x10 r11 a22 x11 x12 x13 x14 f0 x0_a x0_b x1_a x1_b x2_a x2_b x3_a x3_b x4_a x4_b x5_a x5_b x6_a x6_b x7_a x7_b x8_a x8_b x9_a x9_b x10_a x10_b x11_a x11_b x12_a x12_b x13_a x13_b x14_a x14_b) 3 clX12 rfl rfl (by decide) rfl hl.1 rfl (Nat.le_of_ble_eq_true rfl) dX12_readBookLine_159 (by decide) (by decide) (by decide) (by decide)) w [3, 0] [1, 2, 4] rfl rfl (by decide) (by decide) rfl rfl (fun u H locs hp w => ?_)
                  obtain ⟨z116, fr117, z118, z119, fr120, fy121⟩ := u
                  have z116_a : 0 ≤ z116 := hp.1
                  have z116_b : z116 ≤ 940 := hp.2.1
                  have z118_a : 0 ≤ z118 := hp.2.2.1
                  have z118_b : z118 ≤ 4 := hp.2.2.2.1
                  have z119_a : (-2147483648) ≤ z119 := hp.2.2.2.2.1
                  have z119_b : z119 ≤ 2147483647 := hp.2.2.2.2.2.1
                  have ee122 : 0 ≤ (z116 - x2) := hp.2.2.2.2.2.2.1
                  have ee123 : 0 ≤ (((z116 - x2) - z118) + 3) := hp.2.2.2.2.2.2.2
                  have w : WD D A s.heap [(a2, .inl (T 0, 329, .inl (cI f1))), (a20, .inl (T 0, 160, .inl (cI (upz (upz (upz (upz f2 (4 * x10) 3) ((4 * x10) + 1) z113) ((4 * x10) + 2) 0) ((4 * x10) + 3) 0)))), (a7, .inl (T 1, 12, .inr (.inl h0))), (a0, .inr (11, [.int r0, .ref a1, .int (iI x0), .int (iI x1), .int r1, .int (iI z116), .int fr117, .int (iI z118), .int (iI z119), .int fr120, .int r4, .int r5, .long fy121, .int (iI x5), .ref a2, .ref a3, .ref a4, .ref a5, .ref a6, .ref a7, .ref a8, .ref a9, .ref a10, .ref a11, .int (iI x6), .ref a12, .ref a13, .ref a14, .ref a15, .int (iI x7), .int r6, .int r7, .ref a16, .int r8, .int r9, .ref a17, .ref a18, .int (iI x8), .ref a19, .int (iI x9), .int r10, .ref a20, .ref a21, .int (iI x10), .int r11, .ref a22, .int (iI x11), .int (iI x12), .int (iI x13), .int (iI x14)])), (a1, .inl (T 0, 940, .inl f0))] H locs := w
                  refine lv_iload_n hx hb dX12_readBookLine_162 rfl (lv_at hl 2 rfl) ?_
                  refine lv_if_eq (tgt := 193) hx hb dX12_readBookLine_163 (by decide) (fun c_124 => ?_) (fun c_124 => ?_)
                  · replace c_124 := (iz_eq (Int.le_trans (by decide) z1_a) (Int.le_trans z1_b (by decide))).mp c_124
                    refine lv_iload_n hx hb dX12_readBookLine_193 rfl (lv_at hl 1 rfl) ?_
                    refine lv_if_eq (tgt := 217) hx hb dX12_readBookLine_194 (by decide) (fun c_125 => ?_) (fun c_125 => ?_)
                    · replace c_125 := (iz_eq (Int.le_trans (by decide) z2_a) (Int.le_trans z2_b (by decide))).mp c_125
                      refine lv_aload_n hx hb dX12_readBookLine_217 rfl (lv_at hl 3 rfl) ?_
                      refine lv_iload_n hx hb dX12_readBookLine_218 rfl (lv_at hl 0 rfl) ?_
                      refine k_I (ce := 0) (sl := 0) (rest := []) (wr := []) (r_V (f := 4) [3, 4, 0, 2, 1] M w V_HookedCityModel_379 G1997 G106 (c106_X12_readDoes l D T _ a0 (4 * x10) r0 a1 x0 x1 r1 z116 fr117 z118 z119 fr120 r4 r5 fy121 x5 a2 a3 a4 a5 a6 a7 a8 a9 a10 a11 x6 a12 a13 a14 a15 x7 r6 r7 a16 r8 r9 a17 a18 x8 a19 x9 r10 a20 a21 x10 r11 a22 x11 x12 x13 x14 f0 f1 h0 (upz (upz (upz (upz f2 (4 * x10) 3) ((4 * x10) + 1) z113) ((4 * x10) + 2) 0) ((4 * x10) + 3) 0) (by omega) (by omega) x0_a x0_b x1_a x1_b z116_a z116_b z118_a z118_b z119_a z119_b x5_a x5_b x6_a x6_b x7_a x7_b x8_a x8_b x9_a x9_b x10_a x10_b x11_a x11_b x12_a x12_b x13_a x13_b x14_a x14_b f1_h (ln_s f2_h (n := x10) (by omega) (by omega) (by unfold lok; omega) ⟨by omega, by omega⟩ rfl) (by rw [upz_n (by omega), upz_n (by omega), upz_s]; omega) (by omega) (by omega) (by omega)) 3 clX12 rfl rfl (by decide) rfl hl.1 rfl (Nat.le_of_ble_eq_true rfl) dX12_readBookLine_219 (by decide) (by decide) (by decide) (by decide)) w [3, 4, 0, 2, 1] [] rfl rfl (by decide) (by decide) rfl rfl (fun v u H locs hp w => ?_)
                      obtain ⟨z126, z127, fr128, z129, z130, fr131, fr132, fr133, fy134, z135, ff136⟩ := u
                      have hv : iI z126 = v := hp.1
                      subst hv
                      have z126_a : 0 ≤ z126 := hp.2.1
                      have z126_b : z126 ≤ 1 := hp.2.2.1
                      have z127_a : 0 ≤ z127 := hp.2.2.2.1
                      have z127_b : z127 ≤ 940 := hp.2.2.2.2.1
                      have z129_a : 0 ≤ z129 := hp.2.2.2.2.2.1
                      have z129_b : z129 ≤ 4 := hp.2.2.2.2.2.2.1
                      have z130_a : (-2147483648) ≤ z130 := hp.2.2.2.2.2.2.2.1
                      have z130_b : z130 ≤ 2147483647 := hp.2.2.2.2.2.2.2.2.1
                      have z135_a : (-2147483648) ≤ z135 := hp.2.2.2.2.2.2.2.2.2.1
                      have z135_b : z135 ≤ 2147483647 := hp.2.2.2.2.2.2.2.2.2.2.1
                      have ff136_h : lnI ff136 := hp.2.2.2.2.2.2.2.2.2.2.2.1
                      have ee137 : 0 ≤ (z127 - z116) := hp.2.2.2.2.2.2.2.2.2.2.2.2.1
                      have ee138 : 0 ≤ ((((z127 - z116) - z129) + 4) - z126) := hp.2.2.2.2.2.2.2.2.2.2.2.2.2
                      have w : WD D A s.heap [(a0, .inr (11, [.int r0, .ref a1, .int (iI x0), .int (iI x1), .int r1, .int (iI z127), .int fr128, .int (iI z129), .int (iI z130), .int fr131, .int fr132, .int fr133, .long fy134, .int (iI z135), .ref a2, .ref a3, .ref a4, .ref a5, .ref a6, .ref a7, .ref a8, .ref a9, .ref a10, .ref a11, .int (iI x6), .ref a12, .ref a13, .ref a14, .ref a15, .int (iI x7), .int r6, .int r7, .ref a16, .int r8, .int r9, .ref a17, .ref a18, .int (iI x8), .ref a19, .int (iI x9), .int r10, .ref a20, .ref a21, .int (iI x10), .int r11, .ref a22, .int (iI x11), .int (iI x12), .int (iI x13), .int (iI x14)])), (a1, .inl (T 0, 940, .inl f0)), (a2, .inl (T 0, 329, .inl (cI f1))), (a7, .inl (T 1, 12, .inr (.inl h0))), (a20, .inl (T 0, 160, .inl (cI ff136)))] H locs := w
                      refine lv_if_eq (tgt := 236) hx hb dX12_readBookLine_222 (by decide) (fun c_139 => ?_) (fun c_139 => ?_)
                      · replace c_139 := (iz_eq (Int.le_trans (by decide) z126_a) (Int.le_trans z126_b (by decide))).mp c_139
                        refine lv_iconst (v := iI 0) hx hb dX12_readBookLine_236 (by decide +kernel) ?_
                        exact ret _ (0, z127, fr128, z129, z130, fr131, fr132, fr133, fy134, z135, ff136) _ _ _ _ _ [0, 1, 2, 3, 4] dX12_readBookLine_237 (by decide +kernel) ⟨rfl, (show (0 : Int) ≤ 0 from by decide), (show (0 : Int) ≤ 1 from by decide), z127_a, z127_b, z129_a, z129_b, z130_a, z130_b, z135_a, z135_b, ff136_h, (show 0 ≤ ((z127 - x2) - 0) from by omega), (show 0 ≤ ((79 - x10) - (0 * 40)) from by omega)⟩ w (by decide) rfl
                      · replace c_139 : ¬ z126 = 0 := fun h => c_139 ((iz_eq (Int.le_trans (by decide) z126_a) (Int.le_trans z126_b (by decide))).mpr h)
                        refine lv_aload_n hx hb dX12_readBookLine_225 rfl (lv_at hl 3 rfl) ?_
                        refine k_I (ce := 0) (sl := 0) (rest := []) (wr := [(a2, .inl (T 0, 329, .inl (cI f1))), (a7, .inl (T 1, 12, .inr (.inl h0))), (a20, .inl (T 0, 160, .inl (cI ff136)))]) (r_V (f := 2) [0, 1] M w V_HookedCityModel_230 G1720 G66 (c20_X12_readEnd l D T _ a0 r0 a1 x0 x1 r1 z127 fr128 z129 z130 fr131 fr132 fr133 fy134 z135 a2 a3 a4 a5 a6 a7 a8 a9 a10 a11 x6 a12 a13 a14 a15 x7 r6 r7 a16 r8 r9 a17 a18 x8 a19 x9 r10 a20 a21 x10 r11 a22 x11 x12 x13 x14 f0 x0_a x0_b x1_a x1_b z127_a z127_b z129_a z129_b z130_a z130_b z135_a z135_b x6_a x6_b x7_a x7_b x8_a x8_b x9_a x9_b x10_a x10_b x11_a x11_b x12_a x12_b x13_a x13_b x14_a x14_b) 0 clX12 rfl rfl (by decide) rfl hl.1 rfl (Nat.le_of_ble_eq_true rfl) dX12_readBookLine_226 (by decide) (by decide) (by decide) (by decide)) w [0, 1] [2, 3, 4] rfl rfl (by decide) (by decide) rfl rfl (fun v u H locs hp w => ?_)
                        obtain ⟨z140, z141, fr142, z143, z144, fr145, fr146, fr147, fy148⟩ := u
                        have hv : iI z140 = v := hp.1
                        subst hv
                        have z140_a : 0 ≤ z140 := hp.2.1
                        have z140_b : z140 ≤ 1 := hp.2.2.1
                        have z141_a : 0 ≤ z141 := hp.2.2.2.1
                        have z141_b : z141 ≤ 940 := hp.2.2.2.2.1
                        have z143_a : 0 ≤ z143 := hp.2.2.2.2.2.1
                        have z143_b : z143 ≤ 4 := hp.2.2.2.2.2.2.1
                        have z144_a : (-2147483648) ≤ z144 := hp.2.2.2.2.2.2.2.1
                        have z144_b : z144 ≤ 2147483647 := hp.2.2.2.2.2.2.2.2.1
                        have ee149 : 0 ≤ (z141 - z127) := hp.2.2.2.2.2.2.2.2.2.1
                        have ee150 : 0 ≤ (z129 - (z140 * 4)) := hp.2.2.2.2.2.2.2.2.2.2
                        have w : WD D A s.heap [(a2, .inl (T 0, 329, .inl (cI f1))), (a7, .inl (T 1, 12, .inr (.inl h0))), (a20, .inl (T 0, 160, .inl (cI ff136))), (a0, .inr (11, [.int r0, .ref a1, .int (iI x0), .int (iI x1), .int r1, .int (iI z141), .int fr142, .int (iI z143), .int (iI z144), .int fr145, .int fr146, .int fr147, .long fy148, .int (iI z135), .ref a2, .ref a3, .ref a4, .ref a5, .ref a6, .ref a7, .ref a8, .ref a9, .ref a10, .ref a11, .int (iI x6), .ref a12, .ref a13, .ref a14, .ref a15, .int (iI x7), .int r6, .int r7, .ref a16, .int r8, .int r9, .ref a17, .ref a18, .int (iI x8), .ref a19, .int (iI x9), .int r10, .ref a20, .ref a21, .int (iI x10), .int r11, .ref a22, .int (iI x11), .int (iI x12), .int (iI x13), .int (iI x14)])), (a1, .inl (T 0, 940, .inl f0))] H locs := w
                        refine lv_if_eq (tgt := 236) hx hb dX12_readBookLine_229 (by decide) (fun c_151 => ?_) (fun c_151 => ?_)
                        · replace c_151 := (iz_eq (Int.le_trans (by decide) z140_a) (Int.le_trans z140_b (by decide))).mp c_151
                          refine lv_iconst (v := iI 0) hx hb dX12_readBookLine_236 (by decide +kernel) ?_
                          exact ret _ (0, z141, fr142, z143, z144, fr145, fr146, fr147, fy148, z135, ff136) _ _ _ _ _ [3, 4, 0, 1, 2] dX12_readBookLine_237 (by decide +kernel) ⟨rfl, (show (0 : Int) ≤ 0 from by decide), (show (0 : Int) ≤ 1 from by decide), z141_a, z141_b, z143_a, z143_b, z144_a, z144_b, z135_a, z135_b, ff136_h, (show 0 ≤ ((z141 - x2) - 0) from by omega), (show 0 ≤ ((79 - x10) - (0 * 40)) from by omega)⟩ w (by decide) rfl
                        · replace c_151 : ¬ z140 = 0 := fun h => c_151 ((iz_eq (Int.le_trans (by decide) z140_a) (Int.le_trans z140_b (by decide))).mpr h)
                          refine lv_iconst (v := iI 1) hx hb dX12_readBookLine_232 (by decide +kernel) ?_
                          refine lv_goto (tgt := 237) hx hb dX12_readBookLine_233 (by decide) ?_
                          exact ret _ (1, z141, fr142, z143, z144, fr145, fr146, fr147, fy148, z135, ff136) _ _ _ _ _ [3, 4, 0, 1, 2] dX12_readBookLine_237 (by decide +kernel) ⟨rfl, (show (0 : Int) ≤ 1 from by decide), (show (1 : Int) ≤ 1 from by decide), z141_a, z141_b, z143_a, z143_b, z144_a, z144_b, z135_a, z135_b, ff136_h, (show 0 ≤ ((z141 - x2) - 1) from by omega), (show 0 ≤ ((79 - x10) - (1 * 40)) from by omega)⟩ w (by decide) rfl
                    · replace c_125 : ¬ z2 = 0 := fun h => c_125 ((iz_eq (Int.le_trans (by decide) z2_a) (Int.le_trans z2_b (by decide))).mpr h)
                      exfalso; omega
                  · replace c_124 : ¬ z1 = 0 := fun h => c_124 ((iz_eq (Int.le_trans (by decide) z1_a) (Int.le_trans z1_b (by decide))).mpr h)
                    exfalso; omega
                · replace c_110 : ¬ z2 = 0 := fun h => c_110 ((iz_eq (Int.le_trans (by decide) z2_a) (Int.le_trans z2_b (by decide))).mpr h)
                  exfalso; omega
            · replace c_108 : ¬ z1 = 0 := fun h => c_108 ((iz_eq (Int.le_trans (by decide) z1_a) (Int.le_trans z1_b (by decide))).mpr h)
              exfalso; omega
          · replace c_107 := (iI_eq (Int.le_trans (by decide) x10_a) (Int.le_trans x10_b (by decide)) (by decide) (by decide)).mp c_107
            refine lv_aload_n hx hb dX12_readBookLine_73 rfl (lv_at hl 2 rfl) ?_
            refine lv_iconst (v := iI 4) hx hb dX12_readBookLine_74 (by decide +kernel) ?_
            refine k_I (ce := 0) (sl := 0) (rest := []) (wr := [(a1, .inl (T 0, 940, .inl f0)), (a2, .inl (T 0, 329, .inl (cI f1))), (a20, .inl (T 0, 160, .inl (cI f2))), (a7, .inl (T 1, 12, .inr (.inl h0)))]) (r_V (f := 0) [3] M w V_HookedCityModel_72 G1667 G55 (c18_X12_bad l D T _ a0 4 r0 a1 x0 x1 r1 x2 r2 x3 x4 r3 r4 r5 y0 x5 a2 a3 a4 a5 a6 a7 a8 a9 a10 a11 x6 a12 a13 a14 a15 x7 r6 r7 a16 r8 r9 a17 a18 x8 a19 x9 r10 a20 a21 x10 r11 a22 x11 x12 x13 x14 (by decide) (by decide) x0_a x0_b x1_a x1_b x2_a x2_b x3_a x3_b x4_a x4_b x5_a x5_b x6_a x6_b x7_a x7_b x8_a x8_b x9_a x9_b x10_a x10_b x11_a x11_b x12_a x12_b x13_a x13_b x14_a x14_b) 3 clX12 rfl rfl (by decide) rfl hl.1 rfl (Nat.le_of_ble_eq_true rfl) dX12_readBookLine_75 (by decide) (by decide) (by decide) (by decide)) w [3] [0, 1, 2, 4] rfl rfl (by decide) (by decide) rfl rfl (fun v u H locs hp w => ?_)
            obtain ⟨z152, fr153, fr154⟩ := u
            have hv : iI z152 = v := hp.1
            subst hv
            have z152_a : 0 ≤ z152 := hp.2.1
            have z152_b : z152 ≤ 1 := hp.2.2.1
            have w : WD D A s.heap [(a1, .inl (T 0, 940, .inl f0)), (a2, .inl (T 0, 329, .inl (cI f1))), (a20, .inl (T 0, 160, .inl (cI f2))), (a7, .inl (T 1, 12, .inr (.inl h0))), (a0, .inr (11, [.int r0, .ref a1, .int (iI x0), .int (iI x1), .int r1, .int (iI x2), .int r2, .int (iI x3), .int (iI x4), .int r3, .int fr153, .int fr154, .long y0, .int (iI x5), .ref a2, .ref a3, .ref a4, .ref a5, .ref a6, .ref a7, .ref a8, .ref a9, .ref a10, .ref a11, .int (iI x6), .ref a12, .ref a13, .ref a14, .ref a15, .int (iI x7), .int r6, .int r7, .ref a16, .int r8, .int r9, .ref a17, .ref a18, .int (iI x8), .ref a19, .int (iI x9), .int r10, .ref a20, .ref a21, .int (iI x10), .int r11, .ref a22, .int (iI x11), .int (iI x12), .int (iI x13), .int (iI x14)]))] H locs := w
            rcases hp.2.2.2 with hr
            · subst hr
              exact ret _ (0, x2, r2, x3, x4, r3, fr153, fr154, y0, x5, f2) _ _ _ _ _ [4, 0, 1, 3, 2] dX12_readBookLine_78 (by decide +kernel) ⟨rfl, (show (0 : Int) ≤ 0 from by decide), (show (0 : Int) ≤ 1 from by decide), x2_a, x2_b, x3_a, x3_b, x4_a, x4_b, x5_a, x5_b, f2_h, (show 0 ≤ ((x2 - x2) - 0) from by omega), (show 0 ≤ ((79 - x10) - (0 * 40)) from by omega)⟩ w (by decide) rfl
        · replace c_106 := (iI_eq (Int.le_trans (by decide) z103_a) (Int.le_trans z103_b (by decide)) (by decide) (by decide)).mp c_106
          refine lv_aload_n hx hb dX12_readBookLine_58 rfl (lv_at hl 2 rfl) ?_
          refine lv_iconst (v := iI 3) hx hb dX12_readBookLine_59 (by decide +kernel) ?_
          refine k_I (ce := 0) (sl := 0) (rest := []) (wr := [(a1, .inl (T 0, 940, .inl f0)), (a2, .inl (T 0, 329, .inl (cI f1))), (a20, .inl (T 0, 160, .inl (cI f2))), (a7, .inl (T 1, 12, .inr (.inl h0)))]) (r_V (f := 0) [3] M w V_HookedCityModel_72 G1667 G55 (c18_X12_bad l D T _ a0 3 r0 a1 x0 x1 r1 x2 r2 x3 x4 r3 r4 r5 y0 x5 a2 a3 a4 a5 a6 a7 a8 a9 a10 a11 x6 a12 a13 a14 a15 x7 r6 r7 a16 r8 r9 a17 a18 x8 a19 x9 r10 a20 a21 x10 r11 a22 x11 x12 x13 x14 (by decide) (by decide) x0_a x0_b x1_a x1_b x2_a x2_b x3_a x3_b x4_a x4_b x5_a x5_b x6_a x6_b x7_a x7_b x8_a x8_b x9_a x9_b x10_a x10_b x11_a x11_b x12_a x12_b x13_a x13_b x14_a x14_b) 3 clX12 rfl rfl (by decide) rfl hl.1 rfl (Nat.le_of_ble_eq_true rfl) dX12_readBookLine_60 (by decide) (by decide) (by decide) (by decide)) w [3] [0, 1, 2, 4] rfl rfl (by decide) (by decide) rfl rfl (fun v u H locs hp w => ?_)
          obtain ⟨z155, fr156, fr157⟩ := u
          have hv : iI z155 = v := hp.1
          subst hv
          have z155_a : 0 ≤ z155 := hp.2.1
          have z155_b : z155 ≤ 1 := hp.2.2.1
          have w : WD D A s.heap [(a1, .inl (T 0, 940, .inl f0)), (a2, .inl (T 0, 329, .inl (cI f1))), (a20, .inl (T 0, 160, .inl (cI f2))), (a7, .inl (T 1, 12, .inr (.inl h0))), (a0, .inr (11, [.int r0, .ref a1, .int (iI x0), .int (iI x1), .int r1, .int (iI x2), .int r2, .int (iI x3), .int (iI x4), .int r3, .int fr156, .int fr157, .long y0, .int (iI x5), .ref a2, .ref a3, .ref a4, .ref a5, .ref a6, .ref a7, .ref a8, .ref a9, .ref a10, .ref a11, .int (iI x6), .ref a12, .ref a13, .ref a14, .ref a15, .int (iI x7), .int r6, .int r7, .ref a16, .int r8, .int r9, .ref a17, .ref a18, .int (iI x8), .ref a19, .int (iI x9), .int r10, .ref a20, .ref a21, .int (iI x10), .int r11, .ref a22, .int (iI x11), .int (iI x12), .int (iI x13), .int (iI x14)]))] H locs := w
          rcases hp.2.2.2 with hr
          · subst hr
            exact ret _ (0, x2, r2, x3, x4, r3, fr156, fr157, y0, x5, f2) _ _ _ _ _ [4, 0, 1, 3, 2] dX12_readBookLine_63 (by decide +kernel) ⟨rfl, (show (0 : Int) ≤ 0 from by decide), (show (0 : Int) ≤ 1 from by decide), x2_a, x2_b, x3_a, x3_b, x4_a, x4_b, x5_a, x5_b, f2_h, (show 0 ≤ ((x2 - x2) - 0) from by omega), (show 0 ≤ ((79 - x10) - (0 * 40)) from by omega)⟩ w (by decide) rfl
      · replace c_100 := (iz_eq (Int.le_trans (by decide) z99_a) (Int.le_trans z99_b (by decide))).mp c_100
        refine lv_aload_n hx hb dX12_readBookLine_29 rfl (lv_at hl 2 rfl) ?_
        refine lv_iconst (v := iI 1) hx hb dX12_readBookLine_30 (by decide +kernel) ?_
        refine k_I (ce := 0) (sl := 0) (rest := []) (wr := [(a1, .inl (T 0, 940, .inl f0)), (a2, .inl (T 0, 329, .inl (cI f1))), (a7, .inl (T 1, 12, .inr (.inl h0))), (a20, .inl (T 0, 160, .inl (cI f2)))]) (r_V (f := 0) [4] M w V_HookedCityModel_72 G1667 G55 (c18_X12_bad l D T _ a0 1 r0 a1 x0 x1 r1 x2 r2 x3 x4 r3 r4 r5 y0 x5 a2 a3 a4 a5 a6 a7 a8 a9 a10 a11 x6 a12 a13 a14 a15 x7 r6 r7 a16 r8 r9 a17 a18 x8 a19 x9 r10 a20 a21 x10 r11 a22 x11 x12 x13 x14 (by decide) (by decide) x0_a x0_b x1_a x1_b x2_a x2_b x3_a x3_b x4_a x4_b x5_a x5_b x6_a x6_b x7_a x7_b x8_a x8_b x9_a x9_b x10_a x10_b x11_a x11_b x12_a x12_b x13_a x13_b x14_a x14_b) 4 clX12 rfl rfl (by decide) rfl hl.1 rfl (Nat.le_of_ble_eq_true rfl) dX12_readBookLine_31 (by decide) (by decide) (by decide) (by decide)) w [4] [0, 1, 2, 3] rfl rfl (by decide) (by decide) rfl rfl (fun v u H locs hp w => ?_)
        obtain ⟨z158, fr159, fr160⟩ := u
        have hv : iI z158 = v := hp.1
        subst hv
        have z158_a : 0 ≤ z158 := hp.2.1
        have z158_b : z158 ≤ 1 := hp.2.2.1
        have w : WD D A s.heap [(a1, .inl (T 0, 940, .inl f0)), (a2, .inl (T 0, 329, .inl (cI f1))), (a7, .inl (T 1, 12, .inr (.inl h0))), (a20, .inl (T 0, 160, .inl (cI f2))), (a0, .inr (11, [.int r0, .ref a1, .int (iI x0), .int (iI x1), .int r1, .int (iI x2), .int r2, .int (iI x3), .int (iI x4), .int r3, .int fr159, .int fr160, .long y0, .int (iI x5), .ref a2, .ref a3, .ref a4, .ref a5, .ref a6, .ref a7, .ref a8, .ref a9, .ref a10, .ref a11, .int (iI x6), .ref a12, .ref a13, .ref a14, .ref a15, .int (iI x7), .int r6, .int r7, .ref a16, .int r8, .int r9, .ref a17, .ref a18, .int (iI x8), .ref a19, .int (iI x9), .int r10, .ref a20, .ref a21, .int (iI x10), .int r11, .ref a22, .int (iI x11), .int (iI x12), .int (iI x13), .int (iI x14)]))] H locs := w
        rcases hp.2.2.2 with hr
        · subst hr
          exact ret _ (0, x2, r2, x3, x4, r3, fr159, fr160, y0, x5, f2) _ _ _ _ _ [4, 0, 1, 2, 3] dX12_readBookLine_34 (by decide +kernel) ⟨rfl, (show (0 : Int) ≤ 0 from by decide), (show (0 : Int) ≤ 1 from by decide), x2_a, x2_b, x3_a, x3_b, x4_a, x4_b, x5_a, x5_b, f2_h, (show 0 ≤ ((x2 - x2) - 0) from by omega), (show 0 ≤ ((79 - x10) - (0 * 40)) from by omega)⟩ w (by decide) rfl
set_option maxRecDepth 100000 in
set_option maxHeartbeats 4000000 in
theorem c108_X12_goBy (l : Launch) (D : va_G) (T : Nat → ClassId) (sz : Nat) (a0 : Nat) (x0 : Int) (r0 : Int32) (a1 : Nat) (x1 : Int) (x2 : Int) (r1 : Int32) (x3 : Int) (r2 : Int32) (x4 : Int) (x5 : Int) (r3 : Int32) (r4 : Int32) (r5 : Int32) (y0 : Int64) (x6 : Int) (a2 : Nat) (a3 : Nat) (a4 : Nat) (a5 : Nat) (a6 : Nat) (a7 : Nat) (a8 : Nat) (a9 : Nat) (a10 : Nat) (a11 : Nat) (x7 : Int) (a12 : Nat) (a13 : Nat) (a14 : Nat) (a15 : Nat) (x8 : Int) (r6 : Int32) (r7 : Int32) (a16 : Nat) (r8 : Int32) (r9 : Int32) (a17 : Nat) (a18 : Nat) (x9 : Int) (a19 : Nat) (x10 : Int) (r10 : Int32) (a20 : Nat) (a21 : Nat) (x11 : Int) (r11 : Int32) (a22 : Nat) (x12 : Int) (x13 : Int) (x14 : Int) (x15 : Int) (f0 : Int → Int) (f1 : Int → Int) (x0_a : 0 ≤ x0) (x0_b : x0 ≤ 156) (x1_a : 0 ≤ x1) (x1_b : x1 ≤ 940) (x2_a : 0 ≤ x2) (x2_b : x2 ≤ 940) (x3_a : 0 ≤ x3) (x3_b : x3 ≤ 940) (x4_a : 0 ≤ x4) (x4_b : x4 ≤ 4) (x5_a : (-2147483648) ≤ x5) (x5_b : x5 ≤ 2147483647) (x6_a : (-2147483648) ≤ x6) (x6_b : x6 ≤ 2147483647) (x7_a : 0 ≤ x7) (x7_b : x7 ≤ 8) (x8_a : 0 ≤ x8) (x8_b : x8 ≤ 9) (x9_a : 0 ≤ x9) (x9_b : x9 ≤ 9) (x10_a : 0 ≤ x10) (x10_b : x10 ≤ 64) (x11_a : 0 ≤ x11) (x11_b : x11 ≤ 40) (x12_a : 0 ≤ x12) (x12_b : x12 ≤ 40) (x13_a : 0 ≤ x13) (x13_b : x13 ≤ 20) (x14_a : 0 ≤ x14) (x14_b : x14 ≤ 8) (x15_a : 0 ≤ x15) (x15_b : x15 ≤ 39) (f0_h : nowI f0) (f1_h : lnI f1) (pp_l : lok (f1 x0) (f1 (x0 + 1)) (f1 (x0 + 2)) (f1 (x0 + 3))) : Met l yX12_goBy (Cond.code yX12_goBy cX12_goBy 4 (some .int) :: GW) (Rm 4 0 0) (cPre [.ref a0, .int (iI x0)] D T [(a0, .inr (11, [.int r0, .ref a1, .int (iI x1), .int (iI x2), .int r1, .int (iI x3), .int r2, .int (iI x4), .int (iI x5), .int r3, .int r4, .int r5, .long y0, .int (iI x6), .ref a2, .ref a3, .ref a4, .ref a5, .ref a6, .ref a7, .ref a8, .ref a9, .ref a10, .ref a11, .int (iI x7), .ref a12, .ref a13, .ref a14, .ref a15, .int (iI x8), .int r6, .int r7, .ref a16, .int r8, .int r9, .ref a17, .ref a18, .int (iI x9), .ref a19, .int (iI x10), .int r10, .ref a20, .ref a21, .int (iI x11), .int r11, .ref a22, .int (iI x12), .int (iI x13), .int (iI x14), .int (iI x15)])), (a2, .inl (T 0, 329, .inl (cI f0))), (a20, .inl (T 0, 160, .inl (cI f1)))] sz) (qI D [(a0, .inr (11, [.int r0, .ref a1, .int (iI x1), .int (iI x2), .int r1, .int (iI x3), .int r2, .int (iI x4), .int (iI x5), .int r3, .int r4, .int r5, .long y0, .int (iI x6), .ref a2, .ref a3, .ref a4, .ref a5, .ref a6, .ref a7, .ref a8, .ref a9, .ref a10, .ref a11, .int (iI x7), .ref a12, .ref a13, .ref a14, .ref a15, .int (iI x8), .int r6, .int r7, .ref a16, .int r8, .int r9, .ref a17, .ref a18, .int (iI x9), .ref a19, .int (iI x10), .int r10, .ref a20, .ref a21, .int (iI x11), .int r11, .ref a22, .int (iI x12), .int (iI x13), .int (iI x14), .int (iI x15)])), (a2, .inl (T 0, 329, .inl (cI f0))), (a20, .inl (T 0, 160, .inl (cI f1)))] sz (fun (v : Int32) (u : Int × (Int → Int)) => iI u.1 = v ∧ 0 ≤ u.1 ∧ u.1 ≤ 31 ∧ nowI u.2) (fun u => [(a0, .inr (11, [.int r0, .ref a1, .int (iI x1), .int (iI x2), .int r1, .int (iI x3), .int r2, .int (iI x4), .int (iI x5), .int r3, .int r4, .int r5, .long y0, .int (iI x6), .ref a2, .ref a3, .ref a4, .ref a5, .ref a6, .ref a7, .ref a8, .ref a9, .ref a10, .ref a11, .int (iI x7), .ref a12, .ref a13, .ref a14, .ref a15, .int (iI x8), .int r6, .int r7, .ref a16, .int r8, .int r9, .ref a17, .ref a18, .int (iI x9), .ref a19, .int (iI x10), .int r10, .ref a20, .ref a21, .int (iI x11), .int r11, .ref a22, .int (iI x12), .int (iI x13), .int (iI x14), .int (iI x15)])), (a2, .inl (T 0, 329, .inl (cI u.2))), (a20, .inl (T 0, 160, .inl (cI f1)))])) 0 0 (va_A [(a0, .inr (11, [.int r0, .ref a1, .int (iI x1), .int (iI x2), .int r1, .int (iI x3), .int r2, .int (iI x4), .int (iI x5), .int r3, .int r4, .int r5, .long y0, .int (iI x6), .ref a2, .ref a3, .ref a4, .ref a5, .ref a6, .ref a7, .ref a8, .ref a9, .ref a10, .ref a11, .int (iI x7), .ref a12, .ref a13, .ref a14, .ref a15, .int (iI x8), .int r6, .int r7, .ref a16, .int r8, .int r9, .ref a17, .ref a18, .int (iI x9), .ref a19, .int (iI x10), .int r10, .ref a20, .ref a21, .int (iI x11), .int r11, .ref a22, .int (iI x12), .int (iI x13), .int (iI x14), .int (iI x15)])), (a2, .inl (T 0, 329, .inl (cI f0))), (a20, .inl (T 0, 160, .inl (cI f1)))] sz) := by
  refine e_I (by decide) (Nat.le_of_ble_eq_true rfl) ?_
  intro p e s m args below meth c A Q ls M hin w ret hl
  have hx := M.1.1
  have hb := M.1.2.1
  have hl : lv_has ls 4 [(0, .ref a0), (1, .int (iI x0))] := hl
  unfold lok at pp_l
  refine lv_aload_n hx hb dX12_goBy_0 rfl (lv_at hl 0 rfl) ?_
  refine r_get (v := .ref a20) M w 0 41 clX12 rfl (by decide) G1504 rfl rfl dX12_goBy_1 ?_
  refine lv_iload_n hx hb dX12_goBy_4 rfl (lv_at hl 1 rfl) ?_
  refine lv_iconst (v := iI 1) hx hb dX12_goBy_5 (by decide +kernel) ?_
  refine r_iadd (v := iI (x0 + 1)) M (iI_add _ _) dX12_goBy_6 ?_
  refine r_iald (v := iI (f1 (x0 + 1))) M w 2 rfl (iI_in (by omega) (by omega) (by decide)) (cI_at (by omega) (by omega)) dX12_goBy_7 ?_
  have hh1 : (-2147483648) ≤ (f1 (x0 + 1)) ∧ (f1 (x0 + 1)) ≤ 2147483647 := f1_h.1 (x0 + 1)
  refine lv_istore_n (lv' := [(2, .int (iI (f1 (x0 + 1)))), (0, .ref a0), (1, .int (iI x0))]) hx hb dX12_goBy_8 rfl hl (by decide) rfl (fun ls hl => ?_)
  refine lv_aload_n hx hb dX12_goBy_9 rfl (lv_at hl 1 rfl) ?_
  refine r_get (v := .ref a20) M w 0 41 clX12 rfl (by decide) G1504 rfl rfl dX12_goBy_10 ?_
  refine lv_iload_n hx hb dX12_goBy_13 rfl (lv_at hl 2 rfl) ?_
  refine r_iald (v := iI (f1 x0)) M w 2 rfl (iI_in (by omega) (by omega) (by decide)) (cI_at (by omega) (by omega)) dX12_goBy_14 ?_
  have hh2 : (-2147483648) ≤ (f1 x0) ∧ (f1 x0) ≤ 2147483647 := f1_h.1 x0
  refine lv_iconst (v := iI 3) hx hb dX12_goBy_15 (by decide +kernel) ?_
  refine lv_icmp_ne (tgt := 45) hx hb dX12_goBy_16 (by decide) (fun c_3 => ?_) (fun c_3 => ?_)
  · replace c_3 : ¬ (f1 x0) = 3 := fun h => c_3 ((iI_eq (by omega) (by omega) (by decide) (by decide)).mpr h)
    refine lv_aload_n hx hb dX12_goBy_45 rfl (lv_at hl 1 rfl) ?_
    refine lv_aload_n hx hb dX12_goBy_46 rfl (lv_at hl 1 rfl) ?_
    refine r_get (v := .ref a20) M w 0 41 clX12 rfl (by decide) G1504 rfl rfl dX12_goBy_47 ?_
    refine lv_iload_n hx hb dX12_goBy_50 rfl (lv_at hl 2 rfl) ?_
    refine r_iald (v := iI (f1 x0)) M w 2 rfl (iI_in (by omega) (by omega) (by decide)) (cI_at (by omega) (by omega)) dX12_goBy_51 ?_
    have hh4 : (-2147483648) ≤ (f1 x0) ∧ (f1 x0) ≤ 2147483647 := f1_h.1 x0
    refine lv_iload_n hx hb dX12_goBy_52 rfl (lv_at hl 0 rfl) ?_
    refine lv_aload_n hx hb dX12_goBy_53 rfl (lv_at hl 1 rfl) ?_
    refine r_get (v := .ref a20) M w 0 41 clX12 rfl (by decide) G1504 rfl rfl dX12_goBy_54 ?_
    refine lv_iload_n hx hb dX12_goBy_57 rfl (lv_at hl 2 rfl) ?_
    refine lv_iconst (v := iI 2) hx hb dX12_goBy_58 (by decide +kernel) ?_
    refine r_iadd (v := iI (x0 + 2)) M (iI_add _ _) dX12_goBy_59 ?_
    refine r_iald (v := iI (f1 (x0 + 2))) M w 2 rfl (iI_in (by omega) (by omega) (by decide)) (cI_at (by omega) (by omega)) dX12_goBy_60 ?_
    have hh5 : (-2147483648) ≤ (f1 (x0 + 2)) ∧ (f1 (x0 + 2)) ≤ 2147483647 := f1_h.1 (x0 + 2)
    refine lv_aload_n hx hb dX12_goBy_61 rfl (lv_at hl 1 rfl) ?_
    refine r_get (v := .ref a20) M w 0 41 clX12 rfl (by decide) G1504 rfl rfl dX12_goBy_62 ?_
    refine lv_iload_n hx hb dX12_goBy_65 rfl (lv_at hl 2 rfl) ?_
    refine lv_iconst (v := iI 3) hx hb dX12_goBy_66 (by decide +kernel) ?_
    refine r_iadd (v := iI (x0 + 3)) M (iI_add _ _) dX12_goBy_67 ?_
    refine r_iald (v := iI (f1 (x0 + 3))) M w 2 rfl (iI_in (by omega) (by omega) (by decide)) (cI_at (by omega) (by omega)) dX12_goBy_68 ?_
    have hh6 : (-2147483648) ≤ (f1 (x0 + 3)) ∧ (f1 (x0 + 3)) ≤ 2147483647 := f1_h.1 (x0 + 3)
    have hh7 : (f1 x0) = 0 ∨ (f1 x0) = 1 ∨ (f1 x0) = 2 := by omega
    rcases hh7 with ee8 | ee8 | ee8
    · rw [ee8]
      refine k_I (ce := 0) (sl := 0) (rest := []) (wr := [(a20, .inl (T 0, 160, .inl (cI f1)))]) (r_V (f := 2) [0, 1] M w V_HookedCityModel_280 G1792 G79 (c54_X12_why l D T _ a0 (f1 (x0 + 1)) (f1 (x0 + 2)) (f1 (x0 + 3)) r0 a1 x1 x2 r1 x3 r2 x4 x5 r3 r4 r5 y0 x6 a2 a3 a4 a5 a6 a7 a8 a9 a10 a11 x7 a12 a13 a14 a15 x8 r6 r7 a16 r8 r9 a17 a18 x9 a19 x10 r10 a20 a21 x11 r11 a22 x12 x13 x14 x15 f0 (by omega) (by omega) (by omega) (by omega) (by omega) (by omega) x1_a x1_b x2_a x2_b x3_a x3_b x4_a x4_b x5_a x5_b x6_a x6_b x7_a x7_b x8_a x8_b x9_a x9_b x10_a x10_b x11_a x11_b x12_a x12_b x13_a x13_b x14_a x14_b x15_a x15_b f0_h) 0 clX12 rfl rfl (by decide) rfl hl.1 rfl (Nat.le_of_ble_eq_true rfl) dX12_goBy_69 (by decide) (by decide) (by decide) (by decide)) w [0, 1] [2] rfl rfl (by decide) (by decide) rfl rfl (fun v z9 H locs hp w => ?_)
      have hv : iI z9 = v := hp.1
      subst hv
      have z9_a : 0 ≤ z9 := hp.2.1
      have z9_b : z9 ≤ 7 := hp.2.2.1
      have pq10 : z9 = 0 → f0 (66 + (f1 (x0 + 3))) = -1 := hp.2.2.2
      have w : WD D A s.heap [(a20, .inl (T 0, 160, .inl (cI f1))), (a0, .inr (11, [.int r0, .ref a1, .int (iI x1), .int (iI x2), .int r1, .int (iI x3), .int r2, .int (iI x4), .int (iI x5), .int r3, .int r4, .int r5, .long y0, .int (iI x6), .ref a2, .ref a3, .ref a4, .ref a5, .ref a6, .ref a7, .ref a8, .ref a9, .ref a10, .ref a11, .int (iI x7), .ref a12, .ref a13, .ref a14, .ref a15, .int (iI x8), .int r6, .int r7, .ref a16, .int r8, .int r9, .ref a17, .ref a18, .int (iI x9), .ref a19, .int (iI x10), .int r10, .ref a20, .ref a21, .int (iI x11), .int r11, .ref a22, .int (iI x12), .int (iI x13), .int (iI x14), .int (iI x15)])), (a2, .inl (T 0, 329, .inl (cI f0)))] H locs := w
      refine lv_istore_n (lv' := [(3, .int (iI z9)), (2, .int (iI (f1 (x0 + 1)))), (0, .ref a0), (1, .int (iI x0))]) hx hb dX12_goBy_72 rfl hl (by decide) rfl (fun ls hl => ?_)
      refine lv_iload_n hx hb dX12_goBy_73 rfl (lv_at hl 0 rfl) ?_
      refine lv_if_eq (tgt := 89) hx hb dX12_goBy_74 (by decide) (fun c_11 => ?_) (fun c_11 => ?_)
      · replace c_11 := (iz_eq (Int.le_trans (by decide) z9_a) (Int.le_trans z9_b (by decide))).mp c_11
        refine lv_aload_n hx hb dX12_goBy_89 rfl (lv_at hl 2 rfl) ?_
        refine lv_aload_n hx hb dX12_goBy_90 rfl (lv_at hl 2 rfl) ?_
        refine r_get (v := .ref a20) M w 1 41 clX12 rfl (by decide) G1504 rfl rfl dX12_goBy_91 ?_
        refine lv_iload_n hx hb dX12_goBy_94 rfl (lv_at hl 3 rfl) ?_
        refine r_iald (v := iI (f1 x0)) M w 0 rfl (iI_in (by omega) (by omega) (by decide)) (cI_at (by omega) (by omega)) dX12_goBy_95 ?_
        have hh12 : (-2147483648) ≤ (f1 x0) ∧ (f1 x0) ≤ 2147483647 := f1_h.1 x0
        refine lv_iload_n hx hb dX12_goBy_96 rfl (lv_at hl 1 rfl) ?_
        refine lv_aload_n hx hb dX12_goBy_97 rfl (lv_at hl 2 rfl) ?_
        refine r_get (v := .ref a20) M w 1 41 clX12 rfl (by decide) G1504 rfl rfl dX12_goBy_98 ?_
        refine lv_iload_n hx hb dX12_goBy_101 rfl (lv_at hl 3 rfl) ?_
        refine lv_iconst (v := iI 2) hx hb dX12_goBy_102 (by decide +kernel) ?_
        refine r_iadd (v := iI (x0 + 2)) M (iI_add _ _) dX12_goBy_103 ?_
        refine r_iald (v := iI (f1 (x0 + 2))) M w 0 rfl (iI_in (by omega) (by omega) (by decide)) (cI_at (by omega) (by omega)) dX12_goBy_104 ?_
        have hh13 : (-2147483648) ≤ (f1 (x0 + 2)) ∧ (f1 (x0 + 2)) ≤ 2147483647 := f1_h.1 (x0 + 2)
        refine lv_aload_n hx hb dX12_goBy_105 rfl (lv_at hl 2 rfl) ?_
        refine r_get (v := .ref a20) M w 1 41 clX12 rfl (by decide) G1504 rfl rfl dX12_goBy_106 ?_
        refine lv_iload_n hx hb dX12_goBy_109 rfl (lv_at hl 3 rfl) ?_
        refine lv_iconst (v := iI 3) hx hb dX12_goBy_110 (by decide +kernel) ?_
        refine r_iadd (v := iI (x0 + 3)) M (iI_add _ _) dX12_goBy_111 ?_
        refine r_iald (v := iI (f1 (x0 + 3))) M w 0 rfl (iI_in (by omega) (by omega) (by decide)) (cI_at (by omega) (by omega)) dX12_goBy_112 ?_
        have hh14 : (-2147483648) ≤ (f1 (x0 + 3)) ∧ (f1 (x0 + 3)) ≤ 2147483647 := f1_h.1 (x0 + 3)
        have hh15 : (f1 x0) = 0 ∨ (f1 x0) = 1 ∨ (f1 x0) = 2 := by omega
        rcases hh15 with ee16 | ee16 | ee16
        · rw [ee16]
          refine k_V (ce := 0) (sl := 0) (rest := []) (wr := [(a20, .inl (T 0, 160, .inl (cI f1)))]) (r_V (f := 0) [1, 2] M w V_HookedCityModel_287 G1808 G83 (c55_X12_live l D T _ a0 (f1 (x0 + 1)) (f1 (x0 + 2)) (f1 (x0 + 3)) r0 a1 x1 x2 r1 x3 r2 x4 x5 r3 r4 r5 y0 x6 a2 a3 a4 a5 a6 a7 a8 a9 a10 a11 x7 a12 a13 a14 a15 x8 r6 r7 a16 r8 r9 a17 a18 x9 a19 x10 r10 a20 a21 x11 r11 a22 x12 x13 x14 x15 f0 (by omega) (by omega) (by omega) (by omega) (by omega) (by omega) x1_a x1_b x2_a x2_b x3_a x3_b x4_a x4_b x5_a x5_b x6_a x6_b x7_a x7_b x8_a x8_b x9_a x9_b x10_a x10_b x11_a x11_b x12_a x12_b x13_a x13_b x14_a x14_b x15_a x15_b f0_h (pq10 (by omega))) 1 clX12 rfl rfl (by decide) rfl hl.1 rfl (Nat.le_of_ble_eq_true rfl) dX12_goBy_113 (by decide) (by decide) (by decide) (by decide)) w [1, 2] [0] rfl rfl (by decide) (by decide) rfl rfl (fun ff17 H locs hp w => ?_)
          have ff17_h : nowI ff17 := hp
          have w : WD D A s.heap [(a20, .inl (T 0, 160, .inl (cI f1))), (a0, .inr (11, [.int r0, .ref a1, .int (iI x1), .int (iI x2), .int r1, .int (iI x3), .int r2, .int (iI x4), .int (iI x5), .int r3, .int r4, .int r5, .long y0, .int (iI x6), .ref a2, .ref a3, .ref a4, .ref a5, .ref a6, .ref a7, .ref a8, .ref a9, .ref a10, .ref a11, .int (iI x7), .ref a12, .ref a13, .ref a14, .ref a15, .int (iI x8), .int r6, .int r7, .ref a16, .int r8, .int r9, .ref a17, .ref a18, .int (iI x9), .ref a19, .int (iI x10), .int r10, .ref a20, .ref a21, .int (iI x11), .int r11, .ref a22, .int (iI x12), .int (iI x13), .int (iI x14), .int (iI x15)])), (a2, .inl (T 0, 329, .inl (cI ff17)))] H locs := w
          refine lv_iconst (v := iI 0) hx hb dX12_goBy_116 (by decide +kernel) ?_
          exact ret _ (0, ff17) _ _ _ _ _ [1, 2, 0] dX12_goBy_117 ⟨rfl, (show (0 : Int) ≤ 0 from by decide), (show (0 : Int) ≤ 31 from by decide), ff17_h⟩ w (by decide) rfl
        · rw [ee16]
          exfalso; omega
        · rw [ee16]
          exfalso; omega
      · replace c_11 : ¬ z9 = 0 := fun h => c_11 ((iz_eq (Int.le_trans (by decide) z9_a) (Int.le_trans z9_b (by decide))).mpr h)
        refine lv_bipush (v := iI 10) hx hb dX12_goBy_77 (by decide +kernel) ?_
        refine lv_aload_n hx hb dX12_goBy_79 rfl (lv_at hl 2 rfl) ?_
        refine r_get (v := .ref a20) M w 1 41 clX12 rfl (by decide) G1504 rfl rfl dX12_goBy_80 ?_
        refine lv_iload_n hx hb dX12_goBy_83 rfl (lv_at hl 3 rfl) ?_
        refine r_iald (v := iI (f1 x0)) M w 0 rfl (iI_in (by omega) (by omega) (by decide)) (cI_at (by omega) (by omega)) dX12_goBy_84 ?_
        have hh18 : (-2147483648) ≤ (f1 x0) ∧ (f1 x0) ≤ 2147483647 := f1_h.1 x0
        refine r_imul (v := iI (10 * (f1 x0))) M (iI_mul _ _) dX12_goBy_85 ?_
        refine lv_iload_n hx hb dX12_goBy_86 rfl (lv_at hl 0 rfl) ?_
        refine r_iadd (v := iI ((10 * (f1 x0)) + z9)) M (iI_add _ _) dX12_goBy_87 ?_
        exact ret _ (((10 * (f1 x0)) + z9), f0) _ _ _ _ _ [1, 2, 0] dX12_goBy_88 ⟨rfl, (show 0 ≤ ((10 * (f1 x0)) + z9) from by omega), (show ((10 * (f1 x0)) + z9) ≤ 31 from by omega), f0_h⟩ w (by decide) rfl
    · rw [ee8]
      refine k_I (ce := 0) (sl := 0) (rest := []) (wr := [(a20, .inl (T 0, 160, .inl (cI f1)))]) (r_V (f := 1) [0, 1] M w V_HookedCityModel_280 G1792 G79 (c58_X12_why l D T _ a0 (f1 (x0 + 1)) (f1 (x0 + 2)) (f1 (x0 + 3)) r0 a1 x1 x2 r1 x3 r2 x4 x5 r3 r4 r5 y0 x6 a2 a3 a4 a5 a6 a7 a8 a9 a10 a11 x7 a12 a13 a14 a15 x8 r6 r7 a16 r8 r9 a17 a18 x9 a19 x10 r10 a20 a21 x11 r11 a22 x12 x13 x14 x15 f0 (by omega) (by omega) (by omega) (by omega) (by omega) (by omega) x1_a x1_b x2_a x2_b x3_a x3_b x4_a x4_b x5_a x5_b x6_a x6_b x7_a x7_b x8_a x8_b x9_a x9_b x10_a x10_b x11_a x11_b x12_a x12_b x13_a x13_b x14_a x14_b x15_a x15_b f0_h) 0 clX12 rfl rfl (by decide) rfl hl.1 rfl (Nat.le_of_ble_eq_true rfl) dX12_goBy_69 (by decide) (by decide) (by decide) (by decide)) w [0, 1] [2] rfl rfl (by decide) (by decide) rfl rfl (fun v z19 H locs hp w => ?_)
      have hv : iI z19 = v := hp.1
      subst hv
      have z19_a : 0 ≤ z19 := hp.2.1
      have z19_b : z19 ≤ 7 := hp.2.2
      have w : WD D A s.heap [(a20, .inl (T 0, 160, .inl (cI f1))), (a0, .inr (11, [.int r0, .ref a1, .int (iI x1), .int (iI x2), .int r1, .int (iI x3), .int r2, .int (iI x4), .int (iI x5), .int r3, .int r4, .int r5, .long y0, .int (iI x6), .ref a2, .ref a3, .ref a4, .ref a5, .ref a6, .ref a7, .ref a8, .ref a9, .ref a10, .ref a11, .int (iI x7), .ref a12, .ref a13, .ref a14, .ref a15, .int (iI x8), .int r6, .int r7, .ref a16, .int r8, .int r9, .ref a17, .ref a18, .int (iI x9), .ref a19, .int (iI x10), .int r10, .ref a20, .ref a21, .int (iI x11), .int r11, .ref a22, .int (iI x12), .int (iI x13), .int (iI x14), .int (iI x15)])), (a2, .inl (T 0, 329, .inl (cI f0)))] H locs := w
      refine lv_istore_n (lv' := [(3, .int (iI z19)), (2, .int (iI (f1 (x0 + 1)))), (0, .ref a0), (1, .int (iI x0))]) hx hb dX12_goBy_72 rfl hl (by decide) rfl (fun ls hl => ?_)
      refine lv_iload_n hx hb dX12_goBy_73 rfl (lv_at hl 0 rfl) ?_
      refine lv_if_eq (tgt := 89) hx hb dX12_goBy_74 (by decide) (fun c_20 => ?_) (fun c_20 => ?_)
      · replace c_20 := (iz_eq (Int.le_trans (by decide) z19_a) (Int.le_trans z19_b (by decide))).mp c_20
        refine lv_aload_n hx hb dX12_goBy_89 rfl (lv_at hl 2 rfl) ?_
        refine lv_aload_n hx hb dX12_goBy_90 rfl (lv_at hl 2 rfl) ?_
        refine r_get (v := .ref a20) M w 1 41 clX12 rfl (by decide) G1504 rfl rfl dX12_goBy_91 ?_
        refine lv_iload_n hx hb dX12_goBy_94 rfl (lv_at hl 3 rfl) ?_
        refine r_iald (v := iI (f1 x0)) M w 0 rfl (iI_in (by omega) (by omega) (by decide)) (cI_at (by omega) (by omega)) dX12_goBy_95 ?_
        have hh21 : (-2147483648) ≤ (f1 x0) ∧ (f1 x0) ≤ 2147483647 := f1_h.1 x0
        refine lv_iload_n hx hb dX12_goBy_96 rfl (lv_at hl 1 rfl) ?_
        refine lv_aload_n hx hb dX12_goBy_97 rfl (lv_at hl 2 rfl) ?_
        refine r_get (v := .ref a20) M w 1 41 clX12 rfl (by decide) G1504 rfl rfl dX12_goBy_98 ?_
        refine lv_iload_n hx hb dX12_goBy_101 rfl (lv_at hl 3 rfl) ?_
        refine lv_iconst (v := iI 2) hx hb dX12_goBy_102 (by decide +kernel) ?_
        refine r_iadd (v := iI (x0 + 2)) M (iI_add _ _) dX12_goBy_103 ?_
        refine r_iald (v := iI (f1 (x0 + 2))) M w 0 rfl (iI_in (by omega) (by omega) (by decide)) (cI_at (by omega) (by omega)) dX12_goBy_104 ?_
        have hh22 : (-2147483648) ≤ (f1 (x0 + 2)) ∧ (f1 (x0 + 2)) ≤ 2147483647 := f1_h.1 (x0 + 2)
        refine lv_aload_n hx hb dX12_goBy_105 rfl (lv_at hl 2 rfl) ?_
        refine r_get (v := .ref a20) M w 1 41 clX12 rfl (by decide) G1504 rfl rfl dX12_goBy_106 ?_
        refine lv_iload_n hx hb dX12_goBy_109 rfl (lv_at hl 3 rfl) ?_
        refine lv_iconst (v := iI 3) hx hb dX12_goBy_110 (by decide +kernel) ?_
        refine r_iadd (v := iI (x0 + 3)) M (iI_add _ _) dX12_goBy_111 ?_
        refine r_iald (v := iI (f1 (x0 + 3))) M w 0 rfl (iI_in (by omega) (by omega) (by decide)) (cI_at (by omega) (by omega)) dX12_goBy_112 ?_
        have hh23 : (-2147483648) ≤ (f1 (x0 + 3)) ∧ (f1 (x0 + 3)) ≤ 2147483647 := f1_h.1 (x0 + 3)
        have hh24 : (f1 x0) = 0 ∨ (f1 x0) = 1 ∨ (f1 x0) = 2 := by omega
        rcases hh24 with ee25 | ee25 | ee25
        · rw [ee25]
          exfalso; omega
        · rw [ee25]
          refine k_V (ce := 0) (sl := 0) (rest := []) (wr := [(a20, .inl (T 0, 160, .inl (cI f1)))]) (r_V (f := 1) [1, 2] M w V_HookedCityModel_287 G1808 G83 (c59_X12_live l D T _ a0 (f1 (x0 + 1)) (f1 (x0 + 2)) (f1 (x0 + 3)) r0 a1 x1 x2 r1 x3 r2 x4 x5 r3 r4 r5 y0 x6 a2 a3 a4 a5 a6 a7 a8 a9 a10 a11 x7 a12 a13 a14 a15 x8 r6 r7 a16 r8 r9 a17 a18 x9 a19 x10 r10 a20 a21 x11 r11 a22 x12 x13 x14 x15 f0 (by omega) (by omega) (by omega) (by omega) (by omega) (by omega) x1_a x1_b x2_a x2_b x3_a x3_b x4_a x4_b x5_a x5_b x6_a x6_b x7_a x7_b x8_a x8_b x9_a x9_b x10_a x10_b x11_a x11_b x12_a x12_b x13_a x13_b x14_a x14_b x15_a x15_b f0_h) 1 clX12 rfl rfl (by decide) rfl hl.1 rfl (Nat.le_of_ble_eq_true rfl) dX12_goBy_113 (by decide) (by decide) (by decide) (by decide)) w [1, 2] [0] rfl rfl (by decide) (by decide) rfl rfl (fun ff26 H locs hp w => ?_)
          have ff26_h : nowI ff26 := hp
          have w : WD D A s.heap [(a20, .inl (T 0, 160, .inl (cI f1))), (a0, .inr (11, [.int r0, .ref a1, .int (iI x1), .int (iI x2), .int r1, .int (iI x3), .int r2, .int (iI x4), .int (iI x5), .int r3, .int r4, .int r5, .long y0, .int (iI x6), .ref a2, .ref a3, .ref a4, .ref a5, .ref a6, .ref a7, .ref a8, .ref a9, .ref a10, .ref a11, .int (iI x7), .ref a12, .ref a13, .ref a14, .ref a15, .int (iI x8), .int r6, .int r7, .ref a16, .int r8, .int r9, .ref a17, .ref a18, .int (iI x9), .ref a19, .int (iI x10), .int r10, .ref a20, .ref a21, .int (iI x11), .int r11, .ref a22, .int (iI x12), .int (iI x13), .int (iI x14), .int (iI x15)])), (a2, .inl (T 0, 329, .inl (cI ff26)))] H locs := w
          refine lv_iconst (v := iI 0) hx hb dX12_goBy_116 (by decide +kernel) ?_
          exact ret _ (0, ff26) _ _ _ _ _ [1, 2, 0] dX12_goBy_117 ⟨rfl, (show (0 : Int) ≤ 0 from by decide), (show (0 : Int) ≤ 31 from by decide), ff26_h⟩ w (by decide) rfl
        · rw [ee25]
          exfalso; omega
      · replace c_20 : ¬ z19 = 0 := fun h => c_20 ((iz_eq (Int.le_trans (by decide) z19_a) (Int.le_trans z19_b (by decide))).mpr h)
        refine lv_bipush (v := iI 10) hx hb dX12_goBy_77 (by decide +kernel) ?_
        refine lv_aload_n hx hb dX12_goBy_79 rfl (lv_at hl 2 rfl) ?_
        refine r_get (v := .ref a20) M w 1 41 clX12 rfl (by decide) G1504 rfl rfl dX12_goBy_80 ?_
        refine lv_iload_n hx hb dX12_goBy_83 rfl (lv_at hl 3 rfl) ?_
        refine r_iald (v := iI (f1 x0)) M w 0 rfl (iI_in (by omega) (by omega) (by decide)) (cI_at (by omega) (by omega)) dX12_goBy_84 ?_
        have hh27 : (-2147483648) ≤ (f1 x0) ∧ (f1 x0) ≤ 2147483647 := f1_h.1 x0
        refine r_imul (v := iI (10 * (f1 x0))) M (iI_mul _ _) dX12_goBy_85 ?_
        refine lv_iload_n hx hb dX12_goBy_86 rfl (lv_at hl 0 rfl) ?_
        refine r_iadd (v := iI ((10 * (f1 x0)) + z19)) M (iI_add _ _) dX12_goBy_87 ?_
        exact ret _ (((10 * (f1 x0)) + z19), f0) _ _ _ _ _ [1, 2, 0] dX12_goBy_88 ⟨rfl, (show 0 ≤ ((10 * (f1 x0)) + z19) from by omega), (show ((10 * (f1 x0)) + z19) ≤ 31 from by omega), f0_h⟩ w (by decide) rfl
    · rw [ee8]
      refine k_I (ce := 0) (sl := 0) (rest := []) (wr := [(a20, .inl (T 0, 160, .inl (cI f1)))]) (r_V (f := 0) [0, 1] M w V_HookedCityModel_280 G1792 G79 (c62_X12_why l D T _ a0 (f1 (x0 + 1)) (f1 (x0 + 2)) (f1 (x0 + 3)) r0 a1 x1 x2 r1 x3 r2 x4 x5 r3 r4 r5 y0 x6 a2 a3 a4 a5 a6 a7 a8 a9 a10 a11 x7 a12 a13 a14 a15 x8 r6 r7 a16 r8 r9 a17 a18 x9 a19 x10 r10 a20 a21 x11 r11 a22 x12 x13 x14 x15 f0 (by omega) (by omega) (by omega) (by omega) (by omega) (by omega) x1_a x1_b x2_a x2_b x3_a x3_b x4_a x4_b x5_a x5_b x6_a x6_b x7_a x7_b x8_a x8_b x9_a x9_b x10_a x10_b x11_a x11_b x12_a x12_b x13_a x13_b x14_a x14_b x15_a x15_b f0_h) 0 clX12 rfl rfl (by decide) rfl hl.1 rfl (Nat.le_of_ble_eq_true rfl) dX12_goBy_69 (by decide) (by decide) (by decide) (by decide)) w [0, 1] [2] rfl rfl (by decide) (by decide) rfl rfl (fun v z28 H locs hp w => ?_)
      have hv : iI z28 = v := hp.1
      subst hv
      have z28_a : 0 ≤ z28 := hp.2.1
      have z28_b : z28 ≤ 7 := hp.2.2
      have w : WD D A s.heap [(a20, .inl (T 0, 160, .inl (cI f1))), (a0, .inr (11, [.int r0, .ref a1, .int (iI x1), .int (iI x2), .int r1, .int (iI x3), .int r2, .int (iI x4), .int (iI x5), .int r3, .int r4, .int r5, .long y0, .int (iI x6), .ref a2, .ref a3, .ref a4, .ref a5, .ref a6, .ref a7, .ref a8, .ref a9, .ref a10, .ref a11, .int (iI x7), .ref a12, .ref a13, .ref a14, .ref a15, .int (iI x8), .int r6, .int r7, .ref a16, .int r8, .int r9, .ref a17, .ref a18, .int (iI x9), .ref a19, .int (iI x10), .int r10, .ref a20, .ref a21, .int (iI x11), .int r11, .ref a22, .int (iI x12), .int (iI x13), .int (iI x14), .int (iI x15)])), (a2, .inl (T 0, 329, .inl (cI f0)))] H locs := w
      refine lv_istore_n (lv' := [(3, .int (iI z28)), (2, .int (iI (f1 (x0 + 1)))), (0, .ref a0), (1, .int (iI x0))]) hx hb dX12_goBy_72 rfl hl (by decide) rfl (fun ls hl => ?_)
      refine lv_iload_n hx hb dX12_goBy_73 rfl (lv_at hl 0 rfl) ?_
      refine lv_if_eq (tgt := 89) hx hb dX12_goBy_74 (by decide) (fun c_29 => ?_) (fun c_29 => ?_)
      · replace c_29 := (iz_eq (Int.le_trans (by decide) z28_a) (Int.le_trans z28_b (by decide))).mp c_29
        refine lv_aload_n hx hb dX12_goBy_89 rfl (lv_at hl 2 rfl) ?_
        refine lv_aload_n hx hb dX12_goBy_90 rfl (lv_at hl 2 rfl) ?_
        refine r_get (v := .ref a20) M w 1 41 clX12 rfl (by decide) G1504 rfl rfl dX12_goBy_91 ?_
        refine lv_iload_n hx hb dX12_goBy_94 rfl (lv_at hl 3 rfl) ?_
        refine r_iald (v := iI (f1 x0)) M w 0 rfl (iI_in (by omega) (by omega) (by decide)) (cI_at (by omega) (by omega)) dX12_goBy_95 ?_
        have hh30 : (-2147483648) ≤ (f1 x0) ∧ (f1 x0) ≤ 2147483647 := f1_h.1 x0
        refine lv_iload_n hx hb dX12_goBy_96 rfl (lv_at hl 1 rfl) ?_
        refine lv_aload_n hx hb dX12_goBy_97 rfl (lv_at hl 2 rfl) ?_
        refine r_get (v := .ref a20) M w 1 41 clX12 rfl (by decide) G1504 rfl rfl dX12_goBy_98 ?_
        refine lv_iload_n hx hb dX12_goBy_101 rfl (lv_at hl 3 rfl) ?_
        refine lv_iconst (v := iI 2) hx hb dX12_goBy_102 (by decide +kernel) ?_
        refine r_iadd (v := iI (x0 + 2)) M (iI_add _ _) dX12_goBy_103 ?_
        refine r_iald (v := iI (f1 (x0 + 2))) M w 0 rfl (iI_in (by omega) (by omega) (by decide)) (cI_at (by omega) (by omega)) dX12_goBy_104 ?_
        have hh31 : (-2147483648) ≤ (f1 (x0 + 2)) ∧ (f1 (x0 + 2)) ≤ 2147483647 := f1_h.1 (x0 + 2)
        refine lv_aload_n hx hb dX12_goBy_105 rfl (lv_at hl 2 rfl) ?_
        refine r_get (v := .ref a20) M w 1 41 clX12 rfl (by decide) G1504 rfl rfl dX12_goBy_106 ?_
        refine lv_iload_n hx hb dX12_goBy_109 rfl (lv_at hl 3 rfl) ?_
        refine lv_iconst (v := iI 3) hx hb dX12_goBy_110 (by decide +kernel) ?_
        refine r_iadd (v := iI (x0 + 3)) M (iI_add _ _) dX12_goBy_111 ?_
        refine r_iald (v := iI (f1 (x0 + 3))) M w 0 rfl (iI_in (by omega) (by omega) (by decide)) (cI_at (by omega) (by omega)) dX12_goBy_112 ?_
        have hh32 : (-2147483648) ≤ (f1 (x0 + 3)) ∧ (f1 (x0 + 3)) ≤ 2147483647 := f1_h.1 (x0 + 3)
        have hh33 : (f1 x0) = 0 ∨ (f1 x0) = 1 ∨ (f1 x0) = 2 := by omega
        rcases hh33 with ee34 | ee34 | ee34
        · rw [ee34]
          exfalso; omega
        · rw [ee34]
          exfalso; omega
        · rw [ee34]
          refine k_V (ce := 0) (sl := 0) (rest := []) (wr := [(a20, .inl (T 0, 160, .inl (cI f1)))]) (r_V (f := 0) [1, 2] M w V_HookedCityModel_287 G1808 G83 (c63_X12_live l D T _ a0 (f1 (x0 + 1)) (f1 (x0 + 2)) (f1 (x0 + 3)) r0 a1 x1 x2 r1 x3 r2 x4 x5 r3 r4 r5 y0 x6 a2 a3 a4 a5 a6 a7 a8 a9 a10 a11 x7 a12 a13 a14 a15 x8 r6 r7 a16 r8 r9 a17 a18 x9 a19 x10 r10 a20 a21 x11 r11 a22 x12 x13 x14 x15 f0 (by omega) (by omega) (by omega) (by omega) (by omega) (by omega) x1_a x1_b x2_a x2_b x3_a x3_b x4_a x4_b x5_a x5_b x6_a x6_b x7_a x7_b x8_a x8_b x9_a x9_b x10_a x10_b x11_a x11_b x12_a x12_b x13_a x13_b x14_a x14_b x15_a x15_b f0_h) 1 clX12 rfl rfl (by decide) rfl hl.1 rfl (Nat.le_of_ble_eq_true rfl) dX12_goBy_113 (by decide) (by decide) (by decide) (by decide)) w [1, 2] [0] rfl rfl (by decide) (by decide) rfl rfl (fun ff35 H locs hp w => ?_)
          have ff35_h : nowI ff35 := hp
          have w : WD D A s.heap [(a20, .inl (T 0, 160, .inl (cI f1))), (a0, .inr (11, [.int r0, .ref a1, .int (iI x1), .int (iI x2), .int r1, .int (iI x3), .int r2, .int (iI x4), .int (iI x5), .int r3, .int r4, .int r5, .long y0, .int (iI x6), .ref a2, .ref a3, .ref a4, .ref a5, .ref a6, .ref a7, .ref a8, .ref a9, .ref a10, .ref a11, .int (iI x7), .ref a12, .ref a13, .ref a14, .ref a15, .int (iI x8), .int r6, .int r7, .ref a16, .int r8, .int r9, .ref a17, .ref a18, .int (iI x9), .ref a19, .int (iI x10), .int r10, .ref a20, .ref a21, .int (iI x11), .int r11, .ref a22, .int (iI x12), .int (iI x13), .int (iI x14), .int (iI x15)])), (a2, .inl (T 0, 329, .inl (cI ff35)))] H locs := w
          refine lv_iconst (v := iI 0) hx hb dX12_goBy_116 (by decide +kernel) ?_
          exact ret _ (0, ff35) _ _ _ _ _ [1, 2, 0] dX12_goBy_117 ⟨rfl, (show (0 : Int) ≤ 0 from by decide), (show (0 : Int) ≤ 31 from by decide), ff35_h⟩ w (by decide) rfl
      · replace c_29 : ¬ z28 = 0 := fun h => c_29 ((iz_eq (Int.le_trans (by decide) z28_a) (Int.le_trans z28_b (by decide))).mpr h)
        refine lv_bipush (v := iI 10) hx hb dX12_goBy_77 (by decide +kernel) ?_
        refine lv_aload_n hx hb dX12_goBy_79 rfl (lv_at hl 2 rfl) ?_
        refine r_get (v := .ref a20) M w 1 41 clX12 rfl (by decide) G1504 rfl rfl dX12_goBy_80 ?_
        refine lv_iload_n hx hb dX12_goBy_83 rfl (lv_at hl 3 rfl) ?_
        refine r_iald (v := iI (f1 x0)) M w 0 rfl (iI_in (by omega) (by omega) (by decide)) (cI_at (by omega) (by omega)) dX12_goBy_84 ?_
        have hh36 : (-2147483648) ≤ (f1 x0) ∧ (f1 x0) ≤ 2147483647 := f1_h.1 x0
        refine r_imul (v := iI (10 * (f1 x0))) M (iI_mul _ _) dX12_goBy_85 ?_
        refine lv_iload_n hx hb dX12_goBy_86 rfl (lv_at hl 0 rfl) ?_
        refine r_iadd (v := iI ((10 * (f1 x0)) + z28)) M (iI_add _ _) dX12_goBy_87 ?_
        exact ret _ (((10 * (f1 x0)) + z28), f0) _ _ _ _ _ [1, 2, 0] dX12_goBy_88 ⟨rfl, (show 0 ≤ ((10 * (f1 x0)) + z28) from by omega), (show ((10 * (f1 x0)) + z28) ≤ 31 from by omega), f0_h⟩ w (by decide) rfl
  · replace c_3 := (iI_eq (by omega) (by omega) (by decide) (by decide)).mp c_3
    refine lv_aload_n hx hb dX12_goBy_19 rfl (lv_at hl 1 rfl) ?_
    refine r_get (v := .ref a2) M w 0 14 clX12 rfl (by decide) G1477 rfl rfl dX12_goBy_20 ?_
    refine lv_bipush (v := iI 53) hx hb dX12_goBy_23 (by decide +kernel) ?_
    refine r_iald (v := iI (f0 53)) M w 1 rfl (iI_in (by decide) (by decide) (by decide)) (cI_at (by omega) (by omega)) dX12_goBy_25 ?_
    have hh37 : (-2147483648) ≤ (f0 53) ∧ (f0 53) ≤ 2147483647 := f0_h.1 53
    refine lv_iload_n hx hb dX12_goBy_26 rfl (lv_at hl 0 rfl) ?_
    refine r_iadd (v := _) M rfl dX12_goBy_27 ?_
    refine b_any (fun z38 z38_a z38_b => ?_)
    refine lv_sipush (v := iI 400) hx hb dX12_goBy_28 (by decide +kernel) ?_
    refine lv_icmp_le (tgt := 37) hx hb dX12_goBy_31 (by decide) (fun c_39 => ?_) (fun c_39 => ?_)
    · replace c_39 := (iI_le (Int.le_trans (by decide) z38_a) (Int.le_trans z38_b (by decide)) (by decide) (by decide)).mp c_39
      refine lv_aload_n hx hb dX12_goBy_37 rfl (lv_at hl 1 rfl) ?_
      refine lv_iload_n hx hb dX12_goBy_38 rfl (lv_at hl 0 rfl) ?_
      refine k_I (ce := 0) (sl := 0) (rest := []) (wr := [(a20, .inl (T 0, 160, .inl (cI f1)))]) (r_V (f := 3) [0, 1] M w V_HookedCityModel_304 G1832 G85 (c68_X12_passDays l D T _ a0 (f1 (x0 + 1)) r0 a1 x1 x2 r1 x3 r2 x4 x5 r3 r4 r5 y0 x6 a2 a3 a4 a5 a6 a7 a8 a9 a10 a11 x7 a12 a13 a14 a15 x8 r6 r7 a16 r8 r9 a17 a18 x9 a19 x10 r10 a20 a21 x11 r11 a22 x12 x13 x14 x15 f0 (by omega) (by omega) x1_a x1_b x2_a x2_b x3_a x3_b x4_a x4_b x5_a x5_b x6_a x6_b x7_a x7_b x8_a x8_b x9_a x9_b x10_a x10_b x11_a x11_b x12_a x12_b x13_a x13_b x14_a x14_b x15_a x15_b f0_h) 0 clX12 rfl rfl (by decide) rfl hl.1 rfl (Nat.le_of_ble_eq_true rfl) dX12_goBy_39 (by decide) (by decide) (by decide) (by decide)) w [0, 1] [2] rfl rfl (by decide) (by decide) rfl rfl (fun v u H locs hp w => ?_)
      obtain ⟨z40, ff41⟩ := u
      have hv : iI z40 = v := hp.1
      subst hv
      have z40_a : (-2147483648) ≤ z40 := hp.2.1
      have z40_b : z40 ≤ 2147483647 := hp.2.2.1
      have ff41_h : nowI ff41 := hp.2.2.2
      have w : WD D A s.heap [(a20, .inl (T 0, 160, .inl (cI f1))), (a0, .inr (11, [.int r0, .ref a1, .int (iI x1), .int (iI x2), .int r1, .int (iI x3), .int r2, .int (iI x4), .int (iI x5), .int r3, .int r4, .int r5, .long y0, .int (iI x6), .ref a2, .ref a3, .ref a4, .ref a5, .ref a6, .ref a7, .ref a8, .ref a9, .ref a10, .ref a11, .int (iI x7), .ref a12, .ref a13, .ref a14, .ref a15, .int (iI x8), .int r6, .int r7, .ref a16, .int r8, .int r9, .ref a17, .ref a18, .int (iI x9), .ref a19, .int (iI x10), .int r10, .ref a20, .ref a21, .int (iI x11), .int r11, .ref a22, .int (iI x12), .int (iI x13), .int (iI x14), .int (iI x15)])), (a2, .inl (T 0, 329, .inl (cI ff41)))] H locs := w
      refine lv_pop hx hb dX12_goBy_42 rfl ?_
      refine lv_iconst (v := iI 0) hx hb dX12_goBy_43 (by decide +kernel) ?_
      exact ret _ (0, ff41) _ _ _ _ _ [1, 2, 0] dX12_goBy_44 ⟨rfl, (show (0 : Int) ≤ 0 from by decide), (show (0 : Int) ≤ 31 from by decide), ff41_h⟩ w (by decide) rfl
    · replace c_39 : 400 < z38 := Int.not_le.mp (fun h => c_39 ((iI_le (Int.le_trans (by decide) z38_a) (Int.le_trans z38_b (by decide)) (by decide) (by decide)).mpr h))
      refine lv_bipush (v := iI 31) hx hb dX12_goBy_34 (by decide +kernel) ?_
      exact ret _ (31, f0) _ _ _ _ _ [0, 1, 2] dX12_goBy_36 ⟨rfl, (show (0 : Int) ≤ 31 from by decide), (show (31 : Int) ≤ 31 from by decide), f0_h⟩ w (by decide) rfl
set_option maxRecDepth 100000 in
set_option maxHeartbeats 4000000 in
theorem c109_X12_book (l : Launch) (D : va_G) (T : Nat → ClassId) (sz : Nat) (a0 : Nat) (x0 : Int) (r0 : Int32) (a1 : Nat) (x1 : Int) (x2 : Int) (r1 : Int32) (x3 : Int) (r2 : Int32) (x4 : Int) (x5 : Int) (r3 : Int32) (r4 : Int32) (r5 : Int32) (y0 : Int64) (x6 : Int) (a2 : Nat) (a3 : Nat) (a4 : Nat) (a5 : Nat) (a6 : Nat) (a7 : Nat) (a8 : Nat) (a9 : Nat) (a10 : Nat) (a11 : Nat) (x7 : Int) (a12 : Nat) (a13 : Nat) (a14 : Nat) (a15 : Nat) (x8 : Int) (r6 : Int32) (r7 : Int32) (a16 : Nat) (r8 : Int32) (r9 : Int32) (a17 : Nat) (a18 : Nat) (x9 : Int) (a19 : Nat) (x10 : Int) (r10 : Int32) (a20 : Nat) (a21 : Nat) (x11 : Int) (r11 : Int32) (a22 : Nat) (x12 : Int) (x13 : Int) (x14 : Int) (x15 : Int) (f0 : Nat → Int32) (f1 : Int → Int) (f2 : Int → Int) (f3 : Int → Int) (h0 : Nat → Int64) (f4 : Int → Int) (f5 : Nat → Int32) (x0_a : (-2147483648) ≤ x0) (x0_b : x0 ≤ 2147483647) (x1_a : 0 ≤ x1) (x1_b : x1 ≤ 940) (x2_a : 0 ≤ x2) (x2_b : x2 ≤ 940) (x3_a : 0 ≤ x3) (x3_b : x3 ≤ 940) (x4_a : 0 ≤ x4) (x4_b : x4 ≤ 4) (x5_a : (-2147483648) ≤ x5) (x5_b : x5 ≤ 2147483647) (x6_a : (-2147483648) ≤ x6) (x6_b : x6 ≤ 2147483647) (x7_a : 0 ≤ x7) (x7_b : x7 ≤ 8) (x8_a : 0 ≤ x8) (x8_b : x8 ≤ 9) (x9_a : 0 ≤ x9) (x9_b : x9 ≤ 9) (x10_a : 0 ≤ x10) (x10_b : x10 ≤ 64) (x11_a : 0 ≤ x11) (x11_b : x11 ≤ 40) (x12_a : 0 ≤ x12) (x12_b : x12 ≤ 40) (x13_a : 0 ≤ x13) (x13_b : x13 ≤ 20) (x14_a : 0 ≤ x14) (x14_b : x14 ≤ 8) (x15_a : 0 ≤ x15) (x15_b : x15 ≤ 39) (f1_h : nowI f1) (f2_h : FL f2) (f3_h : FL f3) (f4_h : lnI f4) (pp_s : snI f2 x7) : Met l yX12_book (Cond.code yX12_book cX12_book 4 (some .int) :: GW) (Rm 6 0 0) (cPre [.ref a0, .int (iI x0)] D T [(a0, .inr (11, [.int r0, .ref a1, .int (iI x1), .int (iI x2), .int r1, .int (iI x3), .int r2, .int (iI x4), .int (iI x5), .int r3, .int r4, .int r5, .long y0, .int (iI x6), .ref a2, .ref a3, .ref a4, .ref a5, .ref a6, .ref a7, .ref a8, .ref a9, .ref a10, .ref a11, .int (iI x7), .ref a12, .ref a13, .ref a14, .ref a15, .int (iI x8), .int r6, .int r7, .ref a16, .int r8, .int r9, .ref a17, .ref a18, .int (iI x9), .ref a19, .int (iI x10), .int r10, .ref a20, .ref a21, .int (iI x11), .int r11, .ref a22, .int (iI x12), .int (iI x13), .int (iI x14), .int (iI x15)])), (a1, .inl (T 0, 940, .inl f0)), (a2, .inl (T 0, 329, .inl (cI f1))), (a5, .inl (T 0, 272, .inl (cI f2))), (a6, .inl (T 0, 34, .inl (cI f3))), (a7, .inl (T 1, 12, .inr (.inl h0))), (a20, .inl (T 0, 160, .inl (cI f4))), (a21, .inl (T 0, 4, .inl f5))] sz) (qI D [(a0, .inr (11, [.int r0, .ref a1, .int (iI x1), .int (iI x2), .int r1, .int (iI x3), .int r2, .int (iI x4), .int (iI x5), .int r3, .int r4, .int r5, .long y0, .int (iI x6), .ref a2, .ref a3, .ref a4, .ref a5, .ref a6, .ref a7, .ref a8, .ref a9, .ref a10, .ref a11, .int (iI x7), .ref a12, .ref a13, .ref a14, .ref a15, .int (iI x8), .int r6, .int r7, .ref a16, .int r8, .int r9, .ref a17, .ref a18, .int (iI x9), .ref a19, .int (iI x10), .int r10, .ref a20, .ref a21, .int (iI x11), .int r11, .ref a22, .int (iI x12), .int (iI x13), .int (iI x14), .int (iI x15)])), (a1, .inl (T 0, 940, .inl f0)), (a2, .inl (T 0, 329, .inl (cI f1))), (a5, .inl (T 0, 272, .inl (cI f2))), (a6, .inl (T 0, 34, .inl (cI f3))), (a7, .inl (T 1, 12, .inr (.inl h0))), (a20, .inl (T 0, 160, .inl (cI f4))), (a21, .inl (T 0, 4, .inl f5))] sz (fun (v : Int32) (u : Int × Int32 × Int × Int × Int32 × Int × Int32 × Int × Int × Int32 × Int32 × Int32 × Int64 × Int × Int × Int × Int32 × (Int → Int) × (Int → Int) × (Int → Int) × (Int → Int) × (Nat → Int32)) => iI u.1 = v ∧ (-2147483648) ≤ u.1 ∧ u.1 ≤ 2147483647 ∧ 0 ≤ u.2.2.1 ∧ u.2.2.1 ≤ 940 ∧ 0 ≤ u.2.2.2.1 ∧ u.2.2.2.1 ≤ 940 ∧ 0 ≤ u.2.2.2.2.2.1 ∧ u.2.2.2.2.2.1 ≤ 940 ∧ 0 ≤ u.2.2.2.2.2.2.2.1 ∧ u.2.2.2.2.2.2.2.1 ≤ 4 ∧ (-2147483648) ≤ u.2.2.2.2.2.2.2.2.1 ∧ u.2.2.2.2.2.2.2.2.1 ≤ 2147483647 ∧ (-2147483648) ≤ u.2.2.2.2.2.2.2.2.2.2.2.2.2.1 ∧ u.2.2.2.2.2.2.2.2.2.2.2.2.2.1 ≤ 2147483647 ∧ 0 ≤ u.2.2.2.2.2.2.2.2.2.2.2.2.2.2.1 ∧ u.2.2.2.2.2.2.2.2.2.2.2.2.2.2.1 ≤ 8 ∧ 0 ≤ u.2.2.2.2.2.2.2.2.2.2.2.2.2.2.2.1 ∧ u.2.2.2.2.2.2.2.2.2.2.2.2.2.2.2.1 ≤ 40 ∧ nowI u.2.2.2.2.2.2.2.2.2.2.2.2.2.2.2.2.2.1 ∧ FL u.2.2.2.2.2.2.2.2.2.2.2.2.2.2.2.2.2.2.1 ∧ FL u.2.2.2.2.2.2.2.2.2.2.2.2.2.2.2.2.2.2.2.1 ∧ lnI u.2.2.2.2.2.2.2.2.2.2.2.2.2.2.2.2.2.2.2.2.1 ∧ (snI u.2.2.2.2.2.2.2.2.2.2.2.2.2.2.2.2.2.2.1 u.2.2.2.2.2.2.2.2.2.2.2.2.2.2.1) ∧ (bkT x0 x1 u.2.2.1)) (fun u => [(a0, .inr (11, [.int u.2.1, .ref a1, .int (iI u.2.2.1), .int (iI u.2.2.2.1), .int u.2.2.2.2.1, .int (iI u.2.2.2.2.2.1), .int u.2.2.2.2.2.2.1, .int (iI u.2.2.2.2.2.2.2.1), .int (iI u.2.2.2.2.2.2.2.2.1), .int u.2.2.2.2.2.2.2.2.2.1, .int u.2.2.2.2.2.2.2.2.2.2.1, .int u.2.2.2.2.2.2.2.2.2.2.2.1, .long u.2.2.2.2.2.2.2.2.2.2.2.2.1, .int (iI u.2.2.2.2.2.2.2.2.2.2.2.2.2.1), .ref a2, .ref a3, .ref a4, .ref a5, .ref a6, .ref a7, .ref a8, .ref a9, .ref a10, .ref a11, .int (iI u.2.2.2.2.2.2.2.2.2.2.2.2.2.2.1), .ref a12, .ref a13, .ref a14, .ref a15, .int (iI x8), .int r6, .int r7, .ref a16, .int r8, .int r9, .ref a17, .ref a18, .int (iI x9), .ref a19, .int (iI x10), .int r10, .ref a20, .ref a21, .int (iI u.2.2.2.2.2.2.2.2.2.2.2.2.2.2.2.1), .int u.2.2.2.2.2.2.2.2.2.2.2.2.2.2.2.2.1, .ref a22, .int (iI x12), .int (iI x13), .int (iI x14), .int (iI x15)])), (a1, .inl (T 0, 940, .inl f0)), (a2, .inl (T 0, 329, .inl (cI u.2.2.2.2.2.2.2.2.2.2.2.2.2.2.2.2.2.1))), (a5, .inl (T 0, 272, .inl (cI u.2.2.2.2.2.2.2.2.2.2.2.2.2.2.2.2.2.2.1))), (a6, .inl (T 0, 34, .inl (cI u.2.2.2.2.2.2.2.2.2.2.2.2.2.2.2.2.2.2.2.1))), (a7, .inl (T 1, 12, .inr (.inl h0))), (a20, .inl (T 0, 160, .inl (cI u.2.2.2.2.2.2.2.2.2.2.2.2.2.2.2.2.2.2.2.2.1))), (a21, .inl (T 0, 4, .inl u.2.2.2.2.2.2.2.2.2.2.2.2.2.2.2.2.2.2.2.2.2))])) 0 0 (va_A [(a0, .inr (11, [.int r0, .ref a1, .int (iI x1), .int (iI x2), .int r1, .int (iI x3), .int r2, .int (iI x4), .int (iI x5), .int r3, .int r4, .int r5, .long y0, .int (iI x6), .ref a2, .ref a3, .ref a4, .ref a5, .ref a6, .ref a7, .ref a8, .ref a9, .ref a10, .ref a11, .int (iI x7), .ref a12, .ref a13, .ref a14, .ref a15, .int (iI x8), .int r6, .int r7, .ref a16, .int r8, .int r9, .ref a17, .ref a18, .int (iI x9), .ref a19, .int (iI x10), .int r10, .ref a20, .ref a21, .int (iI x11), .int r11, .ref a22, .int (iI x12), .int (iI x13), .int (iI x14), .int (iI x15)])), (a1, .inl (T 0, 940, .inl f0)), (a2, .inl (T 0, 329, .inl (cI f1))), (a5, .inl (T 0, 272, .inl (cI f2))), (a6, .inl (T 0, 34, .inl (cI f3))), (a7, .inl (T 1, 12, .inr (.inl h0))), (a20, .inl (T 0, 160, .inl (cI f4))), (a21, .inl (T 0, 4, .inl f5))] sz) := by
  refine e_I (by decide) (Nat.le_of_ble_eq_true rfl) ?_
  intro p e s m args below meth c A Q ls M hin w ret hl
  have hx := M.1.1
  have hb := M.1.2.1
  have hl : lv_has ls 4 [(0, .ref a0), (1, .int (iI x0))] := hl
  refine lv_aload_n hx hb dX12_book_0 rfl (lv_at hl 0 rfl) ?_
  refine lv_iconst (v := iI 0) hx hb dX12_book_1 (by decide +kernel) ?_
  refine r_put (ws' := [(a0, .inr (11, [.int (iI 0), .ref a1, .int (iI x1), .int (iI x2), .int r1, .int (iI x3), .int r2, .int (iI x4), .int (iI x5), .int r3, .int r4, .int r5, .long y0, .int (iI x6), .ref a2, .ref a3, .ref a4, .ref a5, .ref a6, .ref a7, .ref a8, .ref a9, .ref a10, .ref a11, .int (iI x7), .ref a12, .ref a13, .ref a14, .ref a15, .int (iI x8), .int r6, .int r7, .ref a16, .int r8, .int r9, .ref a17, .ref a18, .int (iI x9), .ref a19, .int (iI x10), .int r10, .ref a20, .ref a21, .int (iI x11), .int r11, .ref a22, .int (iI x12), .int (iI x13), .int (iI x14), .int (iI x15)])), (a1, .inl (T 0, 940, .inl f0)), (a2, .inl (T 0, 329, .inl (cI f1))), (a5, .inl (T 0, 272, .inl (cI f2))), (a6, .inl (T 0, 34, .inl (cI f3))), (a7, .inl (T 1, 12, .inr (.inl h0))), (a20, .inl (T 0, 160, .inl (cI f4))), (a21, .inl (T 0, 4, .inl f5))]) M w 0 0 clX12 rfl (by decide) G1463 rfl rfl rfl rfl (Nat.le_of_ble_eq_true rfl) rfl dX12_book_2 (fun H locs w => ?_)
  refine lv_iload_n hx hb dX12_book_5 rfl (lv_at hl 1 rfl) ?_
  refine lv_iconst (v := iI 0) hx hb dX12_book_6 (by decide +kernel) ?_
  refine lv_iconst (v := iI 1) hx hb dX12_book_7 (by decide +kernel) ?_
  refine k_I (ce := 0) (sl := 0) (rest := []) (wr := [(a0, .inr (11, [.int (iI 0), .ref a1, .int (iI x1), .int (iI x2), .int r1, .int (iI x3), .int r2, .int (iI x4), .int (iI x5), .int r3, .int r4, .int r5, .long y0, .int (iI x6), .ref a2, .ref a3, .ref a4, .ref a5, .ref a6, .ref a7, .ref a8, .ref a9, .ref a10, .ref a11, .int (iI x7), .ref a12, .ref a13, .ref a14, .ref a15, .int (iI x8), .int r6, .int r7, .ref a16, .int r8, .int r9, .ref a17, .ref a18, .int (iI x9), .ref a19, .int (iI x10), .int r10, .ref a20, .ref a21, .int (iI x11), .int r11, .ref a22, .int (iI x12), .int (iI x13), .int (iI x14), .int (iI x15)])), (a1, .inl (T 0, 940, .inl f0)), (a2, .inl (T 0, 329, .inl (cI f1))), (a5, .inl (T 0, 272, .inl (cI f2))), (a6, .inl (T 0, 34, .inl (cI f3))), (a7, .inl (T 1, 12, .inr (.inl h0))), (a20, .inl (T 0, 160, .inl (cI f4))), (a21, .inl (T 0, 4, .inl f5))]) (r_S (f := 0) [] M w V_HookedCityModel_75 G1693 (c6_X12_isIn l D T _ x0 0 1 x0_a x0_b (by decide) (by decide) (by decide) (by decide)) rfl (by decide) rfl hl.1 rfl (Nat.le_of_ble_eq_true rfl) dX12_book_8 (by decide) (by decide) (by decide) (by decide)) w [] [0, 1, 2, 3, 4, 5, 6, 7] rfl rfl (by decide) (by decide) rfl rfl (fun v z1 H locs hp w => ?_)
  have hv : iI z1 = v := hp.1
  subst hv
  have z1_a : 0 ≤ z1 := hp.2.1
  have z1_b : z1 ≤ 1 := hp.2.2.1
  have w : WD D A s.heap [(a0, .inr (11, [.int (iI 0), .ref a1, .int (iI x1), .int (iI x2), .int r1, .int (iI x3), .int r2, .int (iI x4), .int (iI x5), .int r3, .int r4, .int r5, .long y0, .int (iI x6), .ref a2, .ref a3, .ref a4, .ref a5, .ref a6, .ref a7, .ref a8, .ref a9, .ref a10, .ref a11, .int (iI x7), .ref a12, .ref a13, .ref a14, .ref a15, .int (iI x8), .int r6, .int r7, .ref a16, .int r8, .int r9, .ref a17, .ref a18, .int (iI x9), .ref a19, .int (iI x10), .int r10, .ref a20, .ref a21, .int (iI x11), .int r11, .ref a22, .int (iI x12), .int (iI x13), .int (iI x14), .int (iI x15)])), (a1, .inl (T 0, 940, .inl f0)), (a2, .inl (T 0, 329, .inl (cI f1))), (a5, .inl (T 0, 272, .inl (cI f2))), (a6, .inl (T 0, 34, .inl (cI f3))), (a7, .inl (T 1, 12, .inr (.inl h0))), (a20, .inl (T 0, 160, .inl (cI f4))), (a21, .inl (T 0, 4, .inl f5))] H locs := w
  rcases hp.2.2.2 with ⟨c_2, hr⟩ | ⟨c_3, c_4, hr⟩ | ⟨c_5, c_6, hr⟩
  · subst hr
    refine lv_if_ne (tgt := 18) hx hb dX12_book_11 (by decide) (fun c => absurd (by decide +kernel) c) (fun _ => ?_)
    refine lv_sipush (v := iI (-1000)) hx hb dX12_book_14 (by decide +kernel) ?_
    exact ret _ ((-1000), (iI 0), x1, x2, r1, x3, r2, x4, x5, r3, r4, r5, y0, x6, x7, x11, r11, f1, f2, f3, f4, f5) _ _ _ _ _ [0, 1, 2, 3, 4, 5, 6, 7] dX12_book_17 ⟨rfl, (show (-2147483648) ≤ (-1000) from by decide), (show ((-1000) : Int) ≤ 2147483647 from by decide), x1_a, x1_b, x2_a, x2_b, x3_a, x3_b, x4_a, x4_b, x5_a, x5_b, x6_a, x6_b, x7_a, x7_b, x11_a, x11_b, f1_h, f2_h, f3_h, f4_h, (show snI f2 x7 from pp_s), (show bkT x0 x1 x1 from (by unfold bkT; omega))⟩ w (by decide) rfl
  · subst hr
    refine lv_if_ne (tgt := 18) hx hb dX12_book_11 (by decide) (fun c => absurd (by decide +kernel) c) (fun _ => ?_)
    refine lv_sipush (v := iI (-1000)) hx hb dX12_book_14 (by decide +kernel) ?_
    exact ret _ ((-1000), (iI 0), x1, x2, r1, x3, r2, x4, x5, r3, r4, r5, y0, x6, x7, x11, r11, f1, f2, f3, f4, f5) _ _ _ _ _ [0, 1, 2, 3, 4, 5, 6, 7] dX12_book_17 ⟨rfl, (show (-2147483648) ≤ (-1000) from by decide), (show ((-1000) : Int) ≤ 2147483647 from by decide), x1_a, x1_b, x2_a, x2_b, x3_a, x3_b, x4_a, x4_b, x5_a, x5_b, x6_a, x6_b, x7_a, x7_b, x11_a, x11_b, f1_h, f2_h, f3_h, f4_h, (show snI f2 x7 from pp_s), (show bkT x0 x1 x1 from (by unfold bkT; omega))⟩ w (by decide) rfl
  · subst hr
    refine lv_if_ne (tgt := 18) hx hb dX12_book_11 (by decide) (fun _ => ?_) (fun c => absurd c (by decide +kernel))
    refine lv_aload_n hx hb dX12_book_18 rfl (lv_at hl 0 rfl) ?_
    refine lv_sipush (v := iI 400) hx hb dX12_book_19 (by decide +kernel) ?_
    refine k_V (ce := 0) (sl := 0) (rest := []) (wr := [(a2, .inl (T 0, 329, .inl (cI f1))), (a5, .inl (T 0, 272, .inl (cI f2))), (a6, .inl (T 0, 34, .inl (cI f3))), (a7, .inl (T 1, 12, .inr (.inl h0))), (a20, .inl (T 0, 160, .inl (cI f4))), (a21, .inl (T 0, 4, .inl f5))]) (r_V (f := 2) [0, 1] M w V_HookedCityModel_224 G1621 G47 (c21_X12_begin l D T _ a0 400 (iI 0) a1 x1 x2 r1 x3 r2 x4 x5 r3 r4 r5 y0 x6 a2 a3 a4 a5 a6 a7 a8 a9 a10 a11 x7 a12 a13 a14 a15 x8 r6 r7 a16 r8 r9 a17 a18 x9 a19 x10 r10 a20 a21 x11 r11 a22 x12 x13 x14 x15 f0 (by decide) (by decide) x1_a x1_b x2_a x2_b x3_a x3_b x4_a x4_b x5_a x5_b x6_a x6_b x7_a x7_b x8_a x8_b x9_a x9_b x10_a x10_b x11_a x11_b x12_a x12_b x13_a x13_b x14_a x14_b x15_a x15_b) 0 clX12 rfl rfl (by decide) rfl hl.1 rfl (Nat.le_of_ble_eq_true rfl) dX12_book_22 (by decide) (by decide) (by decide) (by decide)) w [0, 1] [2, 3, 4, 5, 6, 7] rfl rfl (by decide) (by decide) rfl rfl (fun u H locs hp w => ?_)
    obtain ⟨fr7, z8, z9, fr10, z11, fr12, z13, z14, fr15, fr16, fy17⟩ := u
    have z8_a : 0 ≤ z8 := hp.1
    have z8_b : z8 ≤ 940 := hp.2.1
    have z9_a : 0 ≤ z9 := hp.2.2.1
    have z9_b : z9 ≤ 940 := hp.2.2.2.1
    have z11_a : 0 ≤ z11 := hp.2.2.2.2.1
    have z11_b : z11 ≤ 940 := hp.2.2.2.2.2.1
    have z13_a : 0 ≤ z13 := hp.2.2.2.2.2.2.1
    have z13_b : z13 ≤ 4 := hp.2.2.2.2.2.2.2.1
    have z14_a : (-2147483648) ≤ z14 := hp.2.2.2.2.2.2.2.2.1
    have z14_b : z14 ≤ 2147483647 := hp.2.2.2.2.2.2.2.2.2.1
    have ee18 : 0 ≤ (0 - z8) := hp.2.2.2.2.2.2.2.2.2.2
    have w : WD D A s.heap [(a2, .inl (T 0, 329, .inl (cI f1))), (a5, .inl (T 0, 272, .inl (cI f2))), (a6, .inl (T 0, 34, .inl (cI f3))), (a7, .inl (T 1, 12, .inr (.inl h0))), (a20, .inl (T 0, 160, .inl (cI f4))), (a21, .inl (T 0, 4, .inl f5)), (a0, .inr (11, [.int fr7, .ref a1, .int (iI z8), .int (iI z9), .int fr10, .int (iI z11), .int fr12, .int (iI z13), .int (iI z14), .int fr15, .int fr16, .int r5, .long fy17, .int (iI x6), .ref a2, .ref a3, .ref a4, .ref a5, .ref a6, .ref a7, .ref a8, .ref a9, .ref a10, .ref a11, .int (iI x7), .ref a12, .ref a13, .ref a14, .ref a15, .int (iI x8), .int r6, .int r7, .ref a16, .int r8, .int r9, .ref a17, .ref a18, .int (iI x9), .ref a19, .int (iI x10), .int r10, .ref a20, .ref a21, .int (iI x11), .int r11, .ref a22, .int (iI x12), .int (iI x13), .int (iI x14), .int (iI x15)])), (a1, .inl (T 0, 940, .inl f0))] H locs := w
    refine lv_aload_n hx hb dX12_book_25 rfl (lv_at hl 0 rfl) ?_
    refine lv_iconst (v := iI 0) hx hb dX12_book_26 (by decide +kernel) ?_
    refine r_put (ws' := [(a2, .inl (T 0, 329, .inl (cI f1))), (a5, .inl (T 0, 272, .inl (cI f2))), (a6, .inl (T 0, 34, .inl (cI f3))), (a7, .inl (T 1, 12, .inr (.inl h0))), (a20, .inl (T 0, 160, .inl (cI f4))), (a21, .inl (T 0, 4, .inl f5)), (a0, .inr (11, [.int fr7, .ref a1, .int (iI z8), .int (iI z9), .int fr10, .int (iI z11), .int fr12, .int (iI z13), .int (iI z14), .int fr15, .int fr16, .int r5, .long fy17, .int (iI x6), .ref a2, .ref a3, .ref a4, .ref a5, .ref a6, .ref a7, .ref a8, .ref a9, .ref a10, .ref a11, .int (iI x7), .ref a12, .ref a13, .ref a14, .ref a15, .int (iI x8), .int r6, .int r7, .ref a16, .int r8, .int r9, .ref a17, .ref a18, .int (iI x9), .ref a19, .int (iI x10), .int r10, .ref a20, .ref a21, .int (iI 0), .int r11, .ref a22, .int (iI x12), .int (iI x13), .int (iI x14), .int (iI x15)])), (a1, .inl (T 0, 940, .inl f0))]) M w 6 43 clX12 rfl (by decide) G1506 rfl rfl rfl rfl (Nat.le_of_ble_eq_true rfl) rfl dX12_book_27 (fun H locs w => ?_)
    have loop1 : ∀ (k1 : Nat) (fr19 : Int32) (fr20 : Int32) (fy21 : Int64) (z22 : Int) (z23 : Int) (z24 : Int) (fr25 : Int32) (z26 : Int) (z27 : Int) (fr28 : Int32) (ff29 : Int → Int) (H : Heap) (locs : List Loc) (ls : Array Slot), (-2147483648) ≤ z22 → z22 ≤ 2147483647 → 0 ≤ z23 → z23 ≤ 40 → 0 ≤ z24 → z24 ≤ 940 → 0 ≤ z26 → z26 ≤ 4 → (-2147483648) ≤ z27 → z27 ≤ 2147483647 → lnI ff29 → ((940 - z24) : Int).toNat < k1 → WD D A s.heap [(a2, .inl (T 0, 329, .inl (cI f1))), (a5, .inl (T 0, 272, .inl (cI f2))), (a6, .inl (T 0, 34, .inl (cI f3))), (a7, .inl (T 1, 12, .inr (.inl h0))), (a20, .inl (T 0, 160, .inl (cI ff29))), (a21, .inl (T 0, 4, .inl f5)), (a0, .inr (11, [.int fr7, .ref a1, .int (iI z8), .int (iI z9), .int fr10, .int (iI z24), .int fr25, .int (iI z26), .int (iI z27), .int fr28, .int fr19, .int fr20, .long fy21, .int (iI z22), .ref a2, .ref a3, .ref a4, .ref a5, .ref a6, .ref a7, .ref a8, .ref a9, .ref a10, .ref a11, .int (iI x7), .ref a12, .ref a13, .ref a14, .ref a15, .int (iI x8), .int r6, .int r7, .ref a16, .int r8, .int r9, .ref a17, .ref a18, .int (iI x9), .ref a19, .int (iI x10), .int r10, .ref a20, .ref a21, .int (iI z23), .int r11, .ref a22, .int (iI x12), .int (iI x13), .int (iI x14), .int (iI x15)])), (a1, .inl (T 0, 940, .inl f0))] H locs → lv_has ls 4 [(0, .ref a0), (1, .int (iI x0))] → W p l e (Rm 6 0 0) s m args below meth c H locs 0 0 Q (F0 m 30 ls []) := by
      intro k1
      induction k1 with
      | zero => intro fr19 fr20 fy21 z22 z23 z24 fr25 z26 z27 fr28 ff29 H locs ls z22_a z22_b z23_a z23_b z24_a z24_b z26_a z26_b z27_a z27_b ff29_h hm; exact absurd hm (Nat.not_lt_zero _)
      | succ k1 ih1 =>
        intro fr19 fr20 fy21 z22 z23 z24 fr25 z26 z27 fr28 ff29 H locs ls z22_a z22_b z23_a z23_b z24_a z24_b z26_a z26_b z27_a z27_b ff29_h hm1 w hl
        refine lv_aload_n hx hb dX12_book_30 rfl (lv_at hl 0 rfl) ?_
        refine r_get (v := .int (iI z26)) M w 6 7 clX12 rfl (by decide) G1470 rfl rfl dX12_book_31 ?_
        refine lv_if_eq (tgt := 65) hx hb dX12_book_34 (by decide) (fun c_30 => ?_) (fun c_30 => ?_)
        · replace c_30 := (iz_eq (Int.le_trans (by decide) z26_a) (Int.le_trans z26_b (by decide))).mp c_30
          refine lv_aload_n hx hb dX12_book_65 rfl (lv_at hl 0 rfl) ?_
          refine k_V (ce := 0) (sl := 0) (rest := []) (wr := [(a5, .inl (T 0, 272, .inl (cI f2))), (a7, .inl (T 1, 12, .inr (.inl h0))), (a20, .inl (T 0, 160, .inl (cI ff29))), (a21, .inl (T 0, 4, .inl f5)), (a1, .inl (T 0, 940, .inl f0))]) (r_V (f := 0) [6, 0, 2] M w V_HookedCityModel_364 G1973 G101 (c90_X12_layAside l D T _ a0 fr7 a1 z8 z9 fr10 z24 fr25 z26 z27 fr28 fr19 fr20 fy21 z22 a2 a3 a4 a5 a6 a7 a8 a9 a10 a11 x7 a12 a13 a14 a15 x8 r6 r7 a16 r8 r9 a17 a18 x9 a19 x10 r10 a20 a21 z23 r11 a22 x12 x13 x14 x15 f1 f3 z8_a z8_b z9_a z9_b z24_a z24_b z26_a z26_b z27_a z27_b z22_a z22_b x7_a x7_b x8_a x8_b x9_a x9_b x10_a x10_b z23_a z23_b x12_a x12_b x13_a x13_b x14_a x14_b x15_a x15_b f1_h f3_h) 6 clX12 rfl rfl (by decide) rfl hl.1 rfl (Nat.le_of_ble_eq_true rfl) dX12_book_66 (by decide) (by decide) (by decide) (by decide)) w [6, 0, 2] [1, 3, 4, 5, 7] rfl rfl (by decide) (by decide) rfl rfl (fun ff31 H locs hp w => ?_)
          have ff31_h : FL ff31 := hp.1
          have pq32 : soI ff31 0 := hp.2
          have w : WD D A s.heap [(a5, .inl (T 0, 272, .inl (cI f2))), (a7, .inl (T 1, 12, .inr (.inl h0))), (a20, .inl (T 0, 160, .inl (cI ff29))), (a21, .inl (T 0, 4, .inl f5)), (a1, .inl (T 0, 940, .inl f0)), (a0, .inr (11, [.int fr7, .ref a1, .int (iI z8), .int (iI z9), .int fr10, .int (iI z24), .int fr25, .int (iI z26), .int (iI z27), .int fr28, .int fr19, .int fr20, .long fy21, .int (iI z22), .ref a2, .ref a3, .ref a4, .ref a5, .ref a6, .ref a7, .ref a8, .ref a9, .ref a10, .ref a11, .int (iI x7), .ref a12, .ref a13, .ref a14, .ref a15, .int (iI x8), .int r6, .int r7, .ref a16, .int r8, .int r9, .ref a17, .ref a18, .int (iI x9), .ref a19, .int (iI x10), .int r10, .ref a20, .ref a21, .int (iI z23), .int r11, .ref a22, .int (iI x12), .int (iI x13), .int (iI x14), .int (iI x15)])), (a2, .inl (T 0, 329, .inl (cI f1))), (a6, .inl (T 0, 34, .inl (cI ff31)))] H locs := w
          refine lv_iconst (v := iI 0) hx hb dX12_book_69 (by decide +kernel) ?_
          refine lv_istore_n (lv' := [(2, .int (iI 0)), (0, .ref a0), (1, .int (iI x0))]) hx hb dX12_book_70 rfl hl (by decide) rfl (fun ls hl => ?_)
          refine lv_iconst (v := iI 0) hx hb dX12_book_71 (by decide +kernel) ?_
          refine lv_istore_n (lv' := [(3, .int (iI 0)), (2, .int (iI 0)), (0, .ref a0), (1, .int (iI x0))]) hx hb dX12_book_72 rfl hl (by decide) rfl (fun ls hl => ?_)
          have loop2 : ∀ (k2 : Nat) (ff33 : Int → Int) (z34 : Int) (z35 : Int) (H : Heap) (locs : List Loc) (ls : Array Slot), nowI ff33 → 0 ≤ z34 → z34 ≤ 31 → 0 ≤ z35 → z35 ≤ 40 → (((((40 - z35) * 100) + 31) - z34) : Int).toNat < k2 → WD D A s.heap [(a5, .inl (T 0, 272, .inl (cI f2))), (a7, .inl (T 1, 12, .inr (.inl h0))), (a20, .inl (T 0, 160, .inl (cI ff29))), (a21, .inl (T 0, 4, .inl f5)), (a1, .inl (T 0, 940, .inl f0)), (a0, .inr (11, [.int fr7, .ref a1, .int (iI z8), .int (iI z9), .int fr10, .int (iI z24), .int fr25, .int (iI z26), .int (iI z27), .int fr28, .int fr19, .int fr20, .long fy21, .int (iI z22), .ref a2, .ref a3, .ref a4, .ref a5, .ref a6, .ref a7, .ref a8, .ref a9, .ref a10, .ref a11, .int (iI x7), .ref a12, .ref a13, .ref a14, .ref a15, .int (iI x8), .int r6, .int r7, .ref a16, .int r8, .int r9, .ref a17, .ref a18, .int (iI x9), .ref a19, .int (iI x10), .int r10, .ref a20, .ref a21, .int (iI z23), .int r11, .ref a22, .int (iI x12), .int (iI x13), .int (iI x14), .int (iI x15)])), (a2, .inl (T 0, 329, .inl (cI ff33))), (a6, .inl (T 0, 34, .inl (cI ff31)))] H locs → lv_has ls 4 [(3, .int (iI z34)), (2, .int (iI z35)), (0, .ref a0), (1, .int (iI x0))] → W p l e (Rm 6 0 0) s m args below meth c H locs 0 0 Q (F0 m 73 ls []) := by
            intro k2
            induction k2 with
            | zero => intro ff33 z34 z35 H locs ls ff33_h z34_a z34_b z35_a z35_b hm; exact absurd hm (Nat.not_lt_zero _)
            | succ k2 ih2 =>
              intro ff33 z34 z35 H locs ls ff33_h z34_a z34_b z35_a z35_b hm2 w hl
              refine lv_iload_n hx hb dX12_book_73 rfl (lv_at hl 1 rfl) ?_
              refine lv_aload_n hx hb dX12_book_74 rfl (lv_at hl 2 rfl) ?_
              refine r_get (v := .int (iI z23)) M w 5 43 clX12 rfl (by decide) G1506 rfl rfl dX12_book_75 ?_
              refine lv_icmp_ge (tgt := 103) hx hb dX12_book_78 (by decide) (fun c_36 => ?_) (fun c_36 => ?_)
              · replace c_36 := (iI_le (Int.le_trans (by decide) z23_a) (Int.le_trans z23_b (by decide)) (Int.le_trans (by decide) z35_a) (Int.le_trans z35_b (by decide))).mp c_36
                refine lv_aload_n hx hb dX12_book_103 rfl (lv_at hl 2 rfl) ?_
                refine r_get (v := .ref a21) M w 5 42 clX12 rfl (by decide) G1505 rfl rfl dX12_book_104 ?_
                refine lv_iconst (v := iI 0) hx hb dX12_book_107 (by decide +kernel) ?_
                refine lv_iload_n hx hb dX12_book_108 rfl (lv_at hl 0 rfl) ?_
                refine r_iast (ws' := [(a5, .inl (T 0, 272, .inl (cI f2))), (a7, .inl (T 1, 12, .inr (.inl h0))), (a20, .inl (T 0, 160, .inl (cI ff29))), (a21, .inl (T 0, 4, .inl (upd f5 (Int32.toNatClampNeg (iI 0)) (iI z34)))), (a1, .inl (T 0, 940, .inl f0)), (a0, .inr (11, [.int fr7, .ref a1, .int (iI z8), .int (iI z9), .int fr10, .int (iI z24), .int fr25, .int (iI z26), .int (iI z27), .int fr28, .int fr19, .int fr20, .long fy21, .int (iI z22), .ref a2, .ref a3, .ref a4, .ref a5, .ref a6, .ref a7, .ref a8, .ref a9, .ref a10, .ref a11, .int (iI x7), .ref a12, .ref a13, .ref a14, .ref a15, .int (iI x8), .int r6, .int r7, .ref a16, .int r8, .int r9, .ref a17, .ref a18, .int (iI x9), .ref a19, .int (iI x10), .int r10, .ref a20, .ref a21, .int (iI z23), .int r11, .ref a22, .int (iI x12), .int (iI x13), .int (iI x14), .int (iI x15)])), (a2, .inl (T 0, 329, .inl (cI ff33))), (a6, .inl (T 0, 34, .inl (cI ff31)))]) M w 3 rfl (iI_in (by decide) (by decide) (by decide)) rfl dX12_book_109 (fun H locs w => ?_)
                refine lv_aload_n hx hb dX12_book_110 rfl (lv_at hl 2 rfl) ?_
                refine r_get (v := .ref a21) M w 5 42 clX12 rfl (by decide) G1505 rfl rfl dX12_book_111 ?_
                refine lv_iconst (v := iI 1) hx hb dX12_book_114 (by decide +kernel) ?_
                refine lv_iload_n hx hb dX12_book_115 rfl (lv_at hl 1 rfl) ?_
                refine r_iast (ws' := [(a5, .inl (T 0, 272, .inl (cI f2))), (a7, .inl (T 1, 12, .inr (.inl h0))), (a20, .inl (T 0, 160, .inl (cI ff29))), (a21, .inl (T 0, 4, .inl (upd (upd f5 (Int32.toNatClampNeg (iI 0)) (iI z34)) (Int32.toNatClampNeg (iI 1)) (iI z35)))), (a1, .inl (T 0, 940, .inl f0)), (a0, .inr (11, [.int fr7, .ref a1, .int (iI z8), .int (iI z9), .int fr10, .int (iI z24), .int fr25, .int (iI z26), .int (iI z27), .int fr28, .int fr19, .int fr20, .long fy21, .int (iI z22), .ref a2, .ref a3, .ref a4, .ref a5, .ref a6, .ref a7, .ref a8, .ref a9, .ref a10, .ref a11, .int (iI x7), .ref a12, .ref a13, .ref a14, .ref a15, .int (iI x8), .int r6, .int r7, .ref a16, .int r8, .int r9, .ref a17, .ref a18, .int (iI x9), .ref a19, .int (iI x10), .int r10, .ref a20, .ref a21, .int (iI z23), .int r11, .ref a22, .int (iI x12), .int (iI x13), .int (iI x14), .int (iI x15)])), (a2, .inl (T 0, 329, .inl (cI ff33))), (a6, .inl (T 0, 34, .inl (cI ff31)))]) M w 3 rfl (iI_in (by decide) (by decide) (by decide)) rfl dX12_book_116 (fun H locs w => ?_)
                refine lv_aload_n hx hb dX12_book_117 rfl (lv_at hl 2 rfl) ?_
                refine r_get (v := .ref a21) M w 5 42 clX12 rfl (by decide) G1505 rfl rfl dX12_book_118 ?_
                refine lv_iconst (v := iI 2) hx hb dX12_book_121 (by decide +kernel) ?_
                refine lv_aload_n hx hb dX12_book_122 rfl (lv_at hl 2 rfl) ?_
                refine r_get (v := .ref a2) M w 5 14 clX12 rfl (by decide) G1477 rfl rfl dX12_book_123 ?_
                refine lv_bipush (v := iI 53) hx hb dX12_book_126 (by decide +kernel) ?_
                refine r_iald (v := iI (ff33 53)) M w 6 rfl (iI_in (by decide) (by decide) (by decide)) (cI_at (by omega) (by omega)) dX12_book_128 ?_
                have hh37 : (-2147483648) ≤ (ff33 53) ∧ (ff33 53) ≤ 2147483647 := ff33_h.1 53
                refine r_iast (ws' := [(a5, .inl (T 0, 272, .inl (cI f2))), (a7, .inl (T 1, 12, .inr (.inl h0))), (a20, .inl (T 0, 160, .inl (cI ff29))), (a21, .inl (T 0, 4, .inl (upd (upd (upd f5 (Int32.toNatClampNeg (iI 0)) (iI z34)) (Int32.toNatClampNeg (iI 1)) (iI z35)) (Int32.toNatClampNeg (iI 2)) (iI (ff33 53))))), (a1, .inl (T 0, 940, .inl f0)), (a0, .inr (11, [.int fr7, .ref a1, .int (iI z8), .int (iI z9), .int fr10, .int (iI z24), .int fr25, .int (iI z26), .int (iI z27), .int fr28, .int fr19, .int fr20, .long fy21, .int (iI z22), .ref a2, .ref a3, .ref a4, .ref a5, .ref a6, .ref a7, .ref a8, .ref a9, .ref a10, .ref a11, .int (iI x7), .ref a12, .ref a13, .ref a14, .ref a15, .int (iI x8), .int r6, .int r7, .ref a16, .int r8, .int r9, .ref a17, .ref a18, .int (iI x9), .ref a19, .int (iI x10), .int r10, .ref a20, .ref a21, .int (iI z23), .int r11, .ref a22, .int (iI x12), .int (iI x13), .int (iI x14), .int (iI x15)])), (a2, .inl (T 0, 329, .inl (cI ff33))), (a6, .inl (T 0, 34, .inl (cI ff31)))]) M w 3 rfl (iI_in (by decide) (by decide) (by decide)) rfl dX12_book_129 (fun H locs w => ?_)
                refine lv_aload_n hx hb dX12_book_130 rfl (lv_at hl 2 rfl) ?_
                refine r_get (v := .ref a21) M w 5 42 clX12 rfl (by decide) G1505 rfl rfl dX12_book_131 ?_
                refine lv_iconst (v := iI 3) hx hb dX12_book_134 (by decide +kernel) ?_
                refine lv_aload_n hx hb dX12_book_135 rfl (lv_at hl 2 rfl) ?_
                refine k_I (ce := 0) (sl := 0) (rest := [.int (iI 3), .ref a21]) (wr := [(a5, .inl (T 0, 272, .inl (cI f2))), (a7, .inl (T 1, 12, .inr (.inl h0))), (a20, .inl (T 0, 160, .inl (cI ff29))), (a21, .inl (T 0, 4, .inl (upd (upd (upd f5 (Int32.toNatClampNeg (iI 0)) (iI z34)) (Int32.toNatClampNeg (iI 1)) (iI z35)) (Int32.toNatClampNeg (iI 2)) (iI (ff33 53))))), (a1, .inl (T 0, 940, .inl f0)), (a6, .inl (T 0, 34, .inl (cI ff31)))]) (r_V (f := 1) [5, 6] M w V_HookedCityModel_258 G1764 G73 (c47_X12_opens l D T _ a0 fr7 a1 z8 z9 fr10 z24 fr25 z26 z27 fr28 fr19 fr20 fy21 z22 a2 a3 a4 a5 a6 a7 a8 a9 a10 a11 x7 a12 a13 a14 a15 x8 r6 r7 a16 r8 r9 a17 a18 x9 a19 x10 r10 a20 a21 z23 r11 a22 x12 x13 x14 x15 ff33 z8_a z8_b z9_a z9_b z24_a z24_b z26_a z26_b z27_a z27_b z22_a z22_b x7_a x7_b x8_a x8_b x9_a x9_b x10_a x10_b z23_a z23_b x12_a x12_b x13_a x13_b x14_a x14_b x15_a x15_b ff33_h) 5 clX12 rfl rfl (by decide) rfl hl.1 rfl (Nat.le_of_ble_eq_true rfl) dX12_book_136 (by decide) (by decide) (by decide) (by decide)) w [5, 6] [0, 1, 2, 3, 4, 7] rfl rfl (by decide) (by decide) rfl rfl (fun v z38 H locs hp w => ?_)
                have hv : iI z38 = v := hp.1
                subst hv
                have z38_a : (-2147483648) ≤ z38 := hp.2.1
                have z38_b : z38 ≤ 2147483647 := hp.2.2
                have w : WD D A s.heap [(a5, .inl (T 0, 272, .inl (cI f2))), (a7, .inl (T 1, 12, .inr (.inl h0))), (a20, .inl (T 0, 160, .inl (cI ff29))), (a21, .inl (T 0, 4, .inl (upd (upd (upd f5 (Int32.toNatClampNeg (iI 0)) (iI z34)) (Int32.toNatClampNeg (iI 1)) (iI z35)) (Int32.toNatClampNeg (iI 2)) (iI (ff33 53))))), (a1, .inl (T 0, 940, .inl f0)), (a6, .inl (T 0, 34, .inl (cI ff31))), (a0, .inr (11, [.int fr7, .ref a1, .int (iI z8), .int (iI z9), .int fr10, .int (iI z24), .int fr25, .int (iI z26), .int (iI z27), .int fr28, .int fr19, .int fr20, .long fy21, .int (iI z22), .ref a2, .ref a3, .ref a4, .ref a5, .ref a6, .ref a7, .ref a8, .ref a9, .ref a10, .ref a11, .int (iI x7), .ref a12, .ref a13, .ref a14, .ref a15, .int (iI x8), .int r6, .int r7, .ref a16, .int r8, .int r9, .ref a17, .ref a18, .int (iI x9), .ref a19, .int (iI x10), .int r10, .ref a20, .ref a21, .int (iI z23), .int r11, .ref a22, .int (iI x12), .int (iI x13), .int (iI x14), .int (iI x15)])), (a2, .inl (T 0, 329, .inl (cI ff33)))] H locs := w
                refine r_iast (ws' := [(a5, .inl (T 0, 272, .inl (cI f2))), (a7, .inl (T 1, 12, .inr (.inl h0))), (a20, .inl (T 0, 160, .inl (cI ff29))), (a21, .inl (T 0, 4, .inl (upd (upd (upd (upd f5 (Int32.toNatClampNeg (iI 0)) (iI z34)) (Int32.toNatClampNeg (iI 1)) (iI z35)) (Int32.toNatClampNeg (iI 2)) (iI (ff33 53))) (Int32.toNatClampNeg (iI 3)) (iI z38)))), (a1, .inl (T 0, 940, .inl f0)), (a6, .inl (T 0, 34, .inl (cI ff31))), (a0, .inr (11, [.int fr7, .ref a1, .int (iI z8), .int (iI z9), .int fr10, .int (iI z24), .int fr25, .int (iI z26), .int (iI z27), .int fr28, .int fr19, .int fr20, .long fy21, .int (iI z22), .ref a2, .ref a3, .ref a4, .ref a5, .ref a6, .ref a7, .ref a8, .ref a9, .ref a10, .ref a11, .int (iI x7), .ref a12, .ref a13, .ref a14, .ref a15, .int (iI x8), .int r6, .int r7, .ref a16, .int r8, .int r9, .ref a17, .ref a18, .int (iI x9), .ref a19, .int (iI x10), .int r10, .ref a20, .ref a21, .int (iI z23), .int r11, .ref a22, .int (iI x12), .int (iI x13), .int (iI x14), .int (iI x15)])), (a2, .inl (T 0, 329, .inl (cI ff33)))]) M w 3 rfl (iI_in (by decide) (by decide) (by decide)) rfl dX12_book_139 (fun H locs w => ?_)
                refine lv_aload_n hx hb dX12_book_140 rfl (lv_at hl 2 rfl) ?_
                refine lv_iconst (v := iI 1) hx hb dX12_book_141 (by decide +kernel) ?_
                refine r_put (ws' := [(a5, .inl (T 0, 272, .inl (cI f2))), (a7, .inl (T 1, 12, .inr (.inl h0))), (a20, .inl (T 0, 160, .inl (cI ff29))), (a21, .inl (T 0, 4, .inl (upd (upd (upd (upd f5 (Int32.toNatClampNeg (iI 0)) (iI z34)) (Int32.toNatClampNeg (iI 1)) (iI z35)) (Int32.toNatClampNeg (iI 2)) (iI (ff33 53))) (Int32.toNatClampNeg (iI 3)) (iI z38)))), (a1, .inl (T 0, 940, .inl f0)), (a6, .inl (T 0, 34, .inl (cI ff31))), (a0, .inr (11, [.int fr7, .ref a1, .int (iI z8), .int (iI z9), .int fr10, .int (iI z24), .int fr25, .int (iI z26), .int (iI z27), .int fr28, .int fr19, .int fr20, .long fy21, .int (iI z22), .ref a2, .ref a3, .ref a4, .ref a5, .ref a6, .ref a7, .ref a8, .ref a9, .ref a10, .ref a11, .int (iI x7), .ref a12, .ref a13, .ref a14, .ref a15, .int (iI x8), .int r6, .int r7, .ref a16, .int r8, .int r9, .ref a17, .ref a18, .int (iI x9), .ref a19, .int (iI x10), .int r10, .ref a20, .ref a21, .int (iI z23), .int (iI 1), .ref a22, .int (iI x12), .int (iI x13), .int (iI x14), .int (iI x15)])), (a2, .inl (T 0, 329, .inl (cI ff33)))]) M w 6 44 clX12 rfl (by decide) G1507 rfl rfl (by decide +kernel) (by decide +kernel) (Nat.le_of_ble_eq_true rfl) rfl dX12_book_142 (fun H locs w => ?_)
                refine lv_aload_n hx hb dX12_book_145 rfl (lv_at hl 2 rfl) ?_
                refine lv_iload_n hx hb dX12_book_146 rfl (lv_at hl 3 rfl) ?_
                refine lv_iconst (v := iI 1) hx hb dX12_book_147 (by decide +kernel) ?_
                refine lv_icmp_ne (tgt := 159) hx hb dX12_book_148 (by decide) (fun c_39 => ?_) (fun c_39 => ?_)
                · replace c_39 : ¬ x0 = 1 := fun h => c_39 ((iI_eq (Int.le_trans (by decide) x0_a) (Int.le_trans x0_b (by decide)) (by decide) (by decide)).mpr h)
                  refine lv_iconst (v := iI 0) hx hb dX12_book_159 (by decide +kernel) ?_
                  refine k_V (ce := 0) (sl := 0) (rest := []) (wr := [(a7, .inl (T 1, 12, .inr (.inl h0))), (a20, .inl (T 0, 160, .inl (cI ff29))), (a21, .inl (T 0, 4, .inl (upd (upd (upd (upd f5 (Int32.toNatClampNeg (iI 0)) (iI z34)) (Int32.toNatClampNeg (iI 1)) (iI z35)) (Int32.toNatClampNeg (iI 2)) (iI (ff33 53))) (Int32.toNatClampNeg (iI 3)) (iI z38)))), (a1, .inl (T 0, 940, .inl f0))]) (r_V (f := 1) [6, 7, 0, 5] M w V_HookedCityModel_391 G2005 G108 (c103_X12_stay l D T _ a0 0 fr7 a1 z8 z9 fr10 z24 fr25 z26 z27 fr28 fr19 fr20 fy21 z22 a2 a3 a4 a5 a6 a7 a8 a9 a10 a11 x7 a12 a13 a14 a15 x8 r6 r7 a16 r8 r9 a17 a18 x9 a19 x10 r10 a20 a21 z23 (iI 1) a22 x12 x13 x14 x15 ff33 f2 ff31 (by decide) (by decide) z8_a z8_b z9_a z9_b z24_a z24_b z26_a z26_b z27_a z27_b z22_a z22_b x7_a x7_b x8_a x8_b x9_a x9_b x10_a x10_b z23_a z23_b x12_a x12_b x13_a x13_b x14_a x14_b x15_a x15_b ff33_h f2_h ff31_h pp_s pq32) 6 clX12 rfl rfl (by decide) rfl hl.1 rfl (Nat.le_of_ble_eq_true rfl) dX12_book_160 (by decide) (by decide) (by decide) (by decide)) w [6, 7, 0, 5] [1, 2, 3, 4] rfl rfl (by decide) (by decide) rfl rfl (fun u H locs hp w => ?_)
                  obtain ⟨z40, ff41, ff42, ff43⟩ := u
                  have z40_a : 0 ≤ z40 := hp.1
                  have z40_b : z40 ≤ 8 := hp.2.1
                  have ff41_h : nowI ff41 := hp.2.2.1
                  have ff42_h : FL ff42 := hp.2.2.2.1
                  have ff43_h : FL ff43 := hp.2.2.2.2.1
                  have pq44 : snI ff42 z40 := hp.2.2.2.2.2
                  have w : WD D A s.heap [(a7, .inl (T 1, 12, .inr (.inl h0))), (a20, .inl (T 0, 160, .inl (cI ff29))), (a21, .inl (T 0, 4, .inl (upd (upd (upd (upd f5 (Int32.toNatClampNeg (iI 0)) (iI z34)) (Int32.toNatClampNeg (iI 1)) (iI z35)) (Int32.toNatClampNeg (iI 2)) (iI (ff33 53))) (Int32.toNatClampNeg (iI 3)) (iI z38)))), (a1, .inl (T 0, 940, .inl f0)), (a0, .inr (11, [.int fr7, .ref a1, .int (iI z8), .int (iI z9), .int fr10, .int (iI z24), .int fr25, .int (iI z26), .int (iI z27), .int fr28, .int fr19, .int fr20, .long fy21, .int (iI z22), .ref a2, .ref a3, .ref a4, .ref a5, .ref a6, .ref a7, .ref a8, .ref a9, .ref a10, .ref a11, .int (iI z40), .ref a12, .ref a13, .ref a14, .ref a15, .int (iI x8), .int r6, .int r7, .ref a16, .int r8, .int r9, .ref a17, .ref a18, .int (iI x9), .ref a19, .int (iI x10), .int r10, .ref a20, .ref a21, .int (iI z23), .int (iI 1), .ref a22, .int (iI x12), .int (iI x13), .int (iI x14), .int (iI x15)])), (a2, .inl (T 0, 329, .inl (cI ff41))), (a5, .inl (T 0, 272, .inl (cI ff42))), (a6, .inl (T 0, 34, .inl (cI ff43)))] H locs := w
                  refine lv_iload_n hx hb dX12_book_163 rfl (lv_at hl 0 rfl) ?_
                  refine lv_if_ne (tgt := 171) hx hb dX12_book_164 (by decide) (fun c_45 => ?_) (fun c_45 => ?_)
                  · replace c_45 : ¬ z34 = 0 := fun h => c_45 ((iz_eq (Int.le_trans (by decide) z34_a) (Int.le_trans z34_b (by decide))).mpr h)
                    refine lv_iload_n hx hb dX12_book_171 rfl (lv_at hl 1 rfl) ?_
                    exact ret _ (z35, fr7, z8, z9, fr10, z24, fr25, z26, z27, fr28, fr19, fr20, fy21, z22, z40, z23, (iI 1), ff41, ff42, ff43, ff29, (upd (upd (upd (upd f5 (Int32.toNatClampNeg (iI 0)) (iI z34)) (Int32.toNatClampNeg (iI 1)) (iI z35)) (Int32.toNatClampNeg (iI 2)) (iI (ff33 53))) (Int32.toNatClampNeg (iI 3)) (iI z38))) _ _ _ _ _ [4, 3, 5, 6, 7, 0, 1, 2] dX12_book_172 ⟨rfl, (show (-2147483648) ≤ z35 from by omega), (show z35 ≤ 2147483647 from by omega), z8_a, z8_b, z9_a, z9_b, z24_a, z24_b, z26_a, z26_b, z27_a, z27_b, z22_a, z22_b, z40_a, z40_b, z23_a, z23_b, ff41_h, ff42_h, ff43_h, ff29_h, (show snI ff42 z40 from pq44), (show bkT x0 x1 z8 from (by unfold bkT; omega))⟩ w (by decide) rfl
                  · replace c_45 := (iz_eq (Int.le_trans (by decide) z34_a) (Int.le_trans z34_b (by decide))).mp c_45
                    refine lv_iconst (v := iI (-1)) hx hb dX12_book_167 (by decide +kernel) ?_
                    refine lv_goto (tgt := 172) hx hb dX12_book_168 (by decide) ?_
                    exact ret _ ((-1), fr7, z8, z9, fr10, z24, fr25, z26, z27, fr28, fr19, fr20, fy21, z22, z40, z23, (iI 1), ff41, ff42, ff43, ff29, (upd (upd (upd (upd f5 (Int32.toNatClampNeg (iI 0)) (iI z34)) (Int32.toNatClampNeg (iI 1)) (iI z35)) (Int32.toNatClampNeg (iI 2)) (iI (ff33 53))) (Int32.toNatClampNeg (iI 3)) (iI z38))) _ _ _ _ _ [4, 3, 5, 6, 7, 0, 1, 2] dX12_book_172 ⟨rfl, (show (-2147483648) ≤ (-1) from by decide), (show ((-1) : Int) ≤ 2147483647 from by decide), z8_a, z8_b, z9_a, z9_b, z24_a, z24_b, z26_a, z26_b, z27_a, z27_b, z22_a, z22_b, z40_a, z40_b, z23_a, z23_b, ff41_h, ff42_h, ff43_h, ff29_h, (show snI ff42 z40 from pq44), (show bkT x0 x1 z8 from (by unfold bkT; omega))⟩ w (by decide) rfl
                · replace c_39 := (iI_eq (Int.le_trans (by decide) x0_a) (Int.le_trans x0_b (by decide)) (by decide) (by decide)).mp c_39
                  refine lv_iload_n hx hb dX12_book_151 rfl (lv_at hl 1 rfl) ?_
                  refine lv_if_le (tgt := 159) hx hb dX12_book_152 (by decide) (fun c_46 => ?_) (fun c_46 => ?_)
                  · replace c_46 := (iz_le (Int.le_trans (by decide) z35_a) (Int.le_trans z35_b (by decide))).mp c_46
                    refine lv_iconst (v := iI 0) hx hb dX12_book_159 (by decide +kernel) ?_
                    refine k_V (ce := 0) (sl := 0) (rest := []) (wr := [(a7, .inl (T 1, 12, .inr (.inl h0))), (a20, .inl (T 0, 160, .inl (cI ff29))), (a21, .inl (T 0, 4, .inl (upd (upd (upd (upd f5 (Int32.toNatClampNeg (iI 0)) (iI z34)) (Int32.toNatClampNeg (iI 1)) (iI z35)) (Int32.toNatClampNeg (iI 2)) (iI (ff33 53))) (Int32.toNatClampNeg (iI 3)) (iI z38)))), (a1, .inl (T 0, 940, .inl f0))]) (r_V (f := 1) [6, 7, 0, 5] M w V_HookedCityModel_391 G2005 G108 (c103_X12_stay l D T _ a0 0 fr7 a1 z8 z9 fr10 z24 fr25 z26 z27 fr28 fr19 fr20 fy21 z22 a2 a3 a4 a5 a6 a7 a8 a9 a10 a11 x7 a12 a13 a14 a15 x8 r6 r7 a16 r8 r9 a17 a18 x9 a19 x10 r10 a20 a21 z23 (iI 1) a22 x12 x13 x14 x15 ff33 f2 ff31 (by decide) (by decide) z8_a z8_b z9_a z9_b z24_a z24_b z26_a z26_b z27_a z27_b z22_a z22_b x7_a x7_b x8_a x8_b x9_a x9_b x10_a x10_b z23_a z23_b x12_a x12_b x13_a x13_b x14_a x14_b x15_a x15_b ff33_h f2_h ff31_h pp_s pq32) 6 clX12 rfl rfl (by decide) rfl hl.1 rfl (Nat.le_of_ble_eq_true rfl) dX12_book_160 (by decide) (by decide) (by decide) (by decide)) w [6, 7, 0, 5] [1, 2, 3, 4] rfl rfl (by decide) (by decide) rfl rfl (fun u H locs hp w => ?_)
                    obtain ⟨z47, ff48, ff49, ff50⟩ := u
                    have z47_a : 0 ≤ z47 := hp.1
                    have z47_b : z47 ≤ 8 := hp.2.1
                    have ff48_h : nowI ff48 := hp.2.2.1
                    have ff49_h : FL ff49 := hp.2.2.2.1
                    have ff50_h : FL ff50 := hp.2.2.2.2.1
                    have pq51 : snI ff49 z47 := hp.2.2.2.2.2
                    have w : WD D A s.heap [(a7, .inl (T 1, 12, .inr (.inl h0))), (a20, .inl (T 0, 160, .inl (cI ff29))), (a21, .inl (T 0, 4, .inl (upd (upd (upd (upd f5 (Int32.toNatClampNeg (iI 0)) (iI z34)) (Int32.toNatClampNeg (iI 1)) (iI z35)) (Int32.toNatClampNeg (iI 2)) (iI (ff33 53))) (Int32.toNatClampNeg (iI 3)) (iI z38)))), (a1, .inl (T 0, 940, .inl f0)), (a0, .inr (11, [.int fr7, .ref a1, .int (iI z8), .int (iI z9), .int fr10, .int (iI z24), .int fr25, .int (iI z26), .int (iI z27), .int fr28, .int fr19, .int fr20, .long fy21, .int (iI z22), .ref a2, .ref a3, .ref a4, .ref a5, .ref a6, .ref a7, .ref a8, .ref a9, .ref a10, .ref a11, .int (iI z47), .ref a12, .ref a13, .ref a14, .ref a15, .int (iI x8), .int r6, .int r7, .ref a16, .int r8, .int r9, .ref a17, .ref a18, .int (iI x9), .ref a19, .int (iI x10), .int r10, .ref a20, .ref a21, .int (iI z23), .int (iI 1), .ref a22, .int (iI x12), .int (iI x13), .int (iI x14), .int (iI x15)])), (a2, .inl (T 0, 329, .inl (cI ff48))), (a5, .inl (T 0, 272, .inl (cI ff49))), (a6, .inl (T 0, 34, .inl (cI ff50)))] H locs := w
                    refine lv_iload_n hx hb dX12_book_163 rfl (lv_at hl 0 rfl) ?_
                    refine lv_if_ne (tgt := 171) hx hb dX12_book_164 (by decide) (fun c_52 => ?_) (fun c_52 => ?_)
                    · replace c_52 : ¬ z34 = 0 := fun h => c_52 ((iz_eq (Int.le_trans (by decide) z34_a) (Int.le_trans z34_b (by decide))).mpr h)
                      refine lv_iload_n hx hb dX12_book_171 rfl (lv_at hl 1 rfl) ?_
                      exact ret _ (z35, fr7, z8, z9, fr10, z24, fr25, z26, z27, fr28, fr19, fr20, fy21, z22, z47, z23, (iI 1), ff48, ff49, ff50, ff29, (upd (upd (upd (upd f5 (Int32.toNatClampNeg (iI 0)) (iI z34)) (Int32.toNatClampNeg (iI 1)) (iI z35)) (Int32.toNatClampNeg (iI 2)) (iI (ff33 53))) (Int32.toNatClampNeg (iI 3)) (iI z38))) _ _ _ _ _ [4, 3, 5, 6, 7, 0, 1, 2] dX12_book_172 ⟨rfl, (show (-2147483648) ≤ z35 from by omega), (show z35 ≤ 2147483647 from by omega), z8_a, z8_b, z9_a, z9_b, z24_a, z24_b, z26_a, z26_b, z27_a, z27_b, z22_a, z22_b, z47_a, z47_b, z23_a, z23_b, ff48_h, ff49_h, ff50_h, ff29_h, (show snI ff49 z47 from pq51), (show bkT x0 x1 z8 from (by unfold bkT; omega))⟩ w (by decide) rfl
                    · replace c_52 := (iz_eq (Int.le_trans (by decide) z34_a) (Int.le_trans z34_b (by decide))).mp c_52
                      refine lv_iconst (v := iI (-1)) hx hb dX12_book_167 (by decide +kernel) ?_
                      refine lv_goto (tgt := 172) hx hb dX12_book_168 (by decide) ?_
                      exact ret _ ((-1), fr7, z8, z9, fr10, z24, fr25, z26, z27, fr28, fr19, fr20, fy21, z22, z47, z23, (iI 1), ff48, ff49, ff50, ff29, (upd (upd (upd (upd f5 (Int32.toNatClampNeg (iI 0)) (iI z34)) (Int32.toNatClampNeg (iI 1)) (iI z35)) (Int32.toNatClampNeg (iI 2)) (iI (ff33 53))) (Int32.toNatClampNeg (iI 3)) (iI z38))) _ _ _ _ _ [4, 3, 5, 6, 7, 0, 1, 2] dX12_book_172 ⟨rfl, (show (-2147483648) ≤ (-1) from by decide), (show ((-1) : Int) ≤ 2147483647 from by decide), z8_a, z8_b, z9_a, z9_b, z24_a, z24_b, z26_a, z26_b, z27_a, z27_b, z22_a, z22_b, z47_a, z47_b, z23_a, z23_b, ff48_h, ff49_h, ff50_h, ff29_h, (show snI ff49 z47 from pq51), (show bkT x0 x1 z8 from (by unfold bkT; omega))⟩ w (by decide) rfl
                  · replace c_46 : 0 < z35 := Int.not_le.mp (fun h => c_46 ((iz_le (Int.le_trans (by decide) z35_a) (Int.le_trans z35_b (by decide))).mpr h))
                    refine lv_iconst (v := iI 1) hx hb dX12_book_155 (by decide +kernel) ?_
                    refine lv_goto (tgt := 160) hx hb dX12_book_156 (by decide) ?_
                    refine k_V (ce := 0) (sl := 0) (rest := []) (wr := [(a7, .inl (T 1, 12, .inr (.inl h0))), (a20, .inl (T 0, 160, .inl (cI ff29))), (a21, .inl (T 0, 4, .inl (upd (upd (upd (upd f5 (Int32.toNatClampNeg (iI 0)) (iI z34)) (Int32.toNatClampNeg (iI 1)) (iI z35)) (Int32.toNatClampNeg (iI 2)) (iI (ff33 53))) (Int32.toNatClampNeg (iI 3)) (iI z38)))), (a1, .inl (T 0, 940, .inl f0))]) (r_V (f := 1) [6, 7, 0, 5] M w V_HookedCityModel_391 G2005 G108 (c103_X12_stay l D T _ a0 1 fr7 a1 z8 z9 fr10 z24 fr25 z26 z27 fr28 fr19 fr20 fy21 z22 a2 a3 a4 a5 a6 a7 a8 a9 a10 a11 x7 a12 a13 a14 a15 x8 r6 r7 a16 r8 r9 a17 a18 x9 a19 x10 r10 a20 a21 z23 (iI 1) a22 x12 x13 x14 x15 ff33 f2 ff31 (by decide) (by decide) z8_a z8_b z9_a z9_b z24_a z24_b z26_a z26_b z27_a z27_b z22_a z22_b x7_a x7_b x8_a x8_b x9_a x9_b x10_a x10_b z23_a z23_b x12_a x12_b x13_a x13_b x14_a x14_b x15_a x15_b ff33_h f2_h ff31_h pp_s pq32) 6 clX12 rfl rfl (by decide) rfl hl.1 rfl (Nat.le_of_ble_eq_true rfl) dX12_book_160 (by decide) (by decide) (by decide) (by decide)) w [6, 7, 0, 5] [1, 2, 3, 4] rfl rfl (by decide) (by decide) rfl rfl (fun u H locs hp w => ?_)
                    obtain ⟨z53, ff54, ff55, ff56⟩ := u
                    have z53_a : 0 ≤ z53 := hp.1
                    have z53_b : z53 ≤ 8 := hp.2.1
                    have ff54_h : nowI ff54 := hp.2.2.1
                    have ff55_h : FL ff55 := hp.2.2.2.1
                    have ff56_h : FL ff56 := hp.2.2.2.2.1
                    have pq57 : snI ff55 z53 := hp.2.2.2.2.2
                    have w : WD D A s.heap [(a7, .inl (T 1, 12, .inr (.inl h0))), (a20, .inl (T 0, 160, .inl (cI ff29))), (a21, .inl (T 0, 4, .inl (upd (upd (upd (upd f5 (Int32.toNatClampNeg (iI 0)) (iI z34)) (Int32.toNatClampNeg (iI 1)) (iI z35)) (Int32.toNatClampNeg (iI 2)) (iI (ff33 53))) (Int32.toNatClampNeg (iI 3)) (iI z38)))), (a1, .inl (T 0, 940, .inl f0)), (a0, .inr (11, [.int fr7, .ref a1, .int (iI z8), .int (iI z9), .int fr10, .int (iI z24), .int fr25, .int (iI z26), .int (iI z27), .int fr28, .int fr19, .int fr20, .long fy21, .int (iI z22), .ref a2, .ref a3, .ref a4, .ref a5, .ref a6, .ref a7, .ref a8, .ref a9, .ref a10, .ref a11, .int (iI z53), .ref a12, .ref a13, .ref a14, .ref a15, .int (iI x8), .int r6, .int r7, .ref a16, .int r8, .int r9, .ref a17, .ref a18, .int (iI x9), .ref a19, .int (iI x10), .int r10, .ref a20, .ref a21, .int (iI z23), .int (iI 1), .ref a22, .int (iI x12), .int (iI x13), .int (iI x14), .int (iI x15)])), (a2, .inl (T 0, 329, .inl (cI ff54))), (a5, .inl (T 0, 272, .inl (cI ff55))), (a6, .inl (T 0, 34, .inl (cI ff56)))] H locs := w
                    refine lv_iload_n hx hb dX12_book_163 rfl (lv_at hl 0 rfl) ?_
                    refine lv_if_ne (tgt := 171) hx hb dX12_book_164 (by decide) (fun c_58 => ?_) (fun c_58 => ?_)
                    · replace c_58 : ¬ z34 = 0 := fun h => c_58 ((iz_eq (Int.le_trans (by decide) z34_a) (Int.le_trans z34_b (by decide))).mpr h)
                      refine lv_iload_n hx hb dX12_book_171 rfl (lv_at hl 1 rfl) ?_
                      exact ret _ (z35, fr7, z8, z9, fr10, z24, fr25, z26, z27, fr28, fr19, fr20, fy21, z22, z53, z23, (iI 1), ff54, ff55, ff56, ff29, (upd (upd (upd (upd f5 (Int32.toNatClampNeg (iI 0)) (iI z34)) (Int32.toNatClampNeg (iI 1)) (iI z35)) (Int32.toNatClampNeg (iI 2)) (iI (ff33 53))) (Int32.toNatClampNeg (iI 3)) (iI z38))) _ _ _ _ _ [4, 3, 5, 6, 7, 0, 1, 2] dX12_book_172 ⟨rfl, (show (-2147483648) ≤ z35 from by omega), (show z35 ≤ 2147483647 from by omega), z8_a, z8_b, z9_a, z9_b, z24_a, z24_b, z26_a, z26_b, z27_a, z27_b, z22_a, z22_b, z53_a, z53_b, z23_a, z23_b, ff54_h, ff55_h, ff56_h, ff29_h, (show snI ff55 z53 from pq57), (show bkT x0 x1 z8 from (by unfold bkT; omega))⟩ w (by decide) rfl
                    · replace c_58 := (iz_eq (Int.le_trans (by decide) z34_a) (Int.le_trans z34_b (by decide))).mp c_58
                      refine lv_iconst (v := iI (-1)) hx hb dX12_book_167 (by decide +kernel) ?_
                      refine lv_goto (tgt := 172) hx hb dX12_book_168 (by decide) ?_
                      exact ret _ ((-1), fr7, z8, z9, fr10, z24, fr25, z26, z27, fr28, fr19, fr20, fy21, z22, z53, z23, (iI 1), ff54, ff55, ff56, ff29, (upd (upd (upd (upd f5 (Int32.toNatClampNeg (iI 0)) (iI z34)) (Int32.toNatClampNeg (iI 1)) (iI z35)) (Int32.toNatClampNeg (iI 2)) (iI (ff33 53))) (Int32.toNatClampNeg (iI 3)) (iI z38))) _ _ _ _ _ [4, 3, 5, 6, 7, 0, 1, 2] dX12_book_172 ⟨rfl, (show (-2147483648) ≤ (-1) from by decide), (show ((-1) : Int) ≤ 2147483647 from by decide), z8_a, z8_b, z9_a, z9_b, z24_a, z24_b, z26_a, z26_b, z27_a, z27_b, z22_a, z22_b, z53_a, z53_b, z23_a, z23_b, ff54_h, ff55_h, ff56_h, ff29_h, (show snI ff55 z53 from pq57), (show bkT x0 x1 z8 from (by unfold bkT; omega))⟩ w (by decide) rfl
              · replace c_36 : z35 < z23 := Int.not_le.mp (fun h => c_36 ((iI_le (Int.le_trans (by decide) z23_a) (Int.le_trans z23_b (by decide)) (Int.le_trans (by decide) z35_a) (Int.le_trans z35_b (by decide))).mpr h))
                refine lv_iload_n hx hb dX12_book_81 rfl (lv_at hl 0 rfl) ?_
                refine lv_if_ne (tgt := 103) hx hb dX12_book_82 (by decide) (fun c_59 => ?_) (fun c_59 => ?_)
                · replace c_59 : ¬ z34 = 0 := fun h => c_59 ((iz_eq (Int.le_trans (by decide) z34_a) (Int.le_trans z34_b (by decide))).mpr h)
                  refine lv_aload_n hx hb dX12_book_103 rfl (lv_at hl 2 rfl) ?_
                  refine r_get (v := .ref a21) M w 5 42 clX12 rfl (by decide) G1505 rfl rfl dX12_book_104 ?_
                  refine lv_iconst (v := iI 0) hx hb dX12_book_107 (by decide +kernel) ?_
                  refine lv_iload_n hx hb dX12_book_108 rfl (lv_at hl 0 rfl) ?_
                  refine r_iast (ws' := [(a5, .inl (T 0, 272, .inl (cI f2))), (a7, .inl (T 1, 12, .inr (.inl h0))), (a20, .inl (T 0, 160, .inl (cI ff29))), (a21, .inl (T 0, 4, .inl (upd f5 (Int32.toNatClampNeg (iI 0)) (iI z34)))), (a1, .inl (T 0, 940, .inl f0)), (a0, .inr (11, [.int fr7, .ref a1, .int (iI z8), .int (iI z9), .int fr10, .int (iI z24), .int fr25, .int (iI z26), .int (iI z27), .int fr28, .int fr19, .int fr20, .long fy21, .int (iI z22), .ref a2, .ref a3, .ref a4, .ref a5, .ref a6, .ref a7, .ref a8, .ref a9, .ref a10, .ref a11, .int (iI x7), .ref a12, .ref a13, .ref a14, .ref a15, .int (iI x8), .int r6, .int r7, .ref a16, .int r8, .int r9, .ref a17, .ref a18, .int (iI x9), .ref a19, .int (iI x10), .int r10, .ref a20, .ref a21, .int (iI z23), .int r11, .ref a22, .int (iI x12), .int (iI x13), .int (iI x14), .int (iI x15)])), (a2, .inl (T 0, 329, .inl (cI ff33))), (a6, .inl (T 0, 34, .inl (cI ff31)))]) M w 3 rfl (iI_in (by decide) (by decide) (by decide)) rfl dX12_book_109 (fun H locs w => ?_)
                  refine lv_aload_n hx hb dX12_book_110 rfl (lv_at hl 2 rfl) ?_
                  refine r_get (v := .ref a21) M w 5 42 clX12 rfl (by decide) G1505 rfl rfl dX12_book_111 ?_
                  refine lv_iconst (v := iI 1) hx hb dX12_book_114 (by decide +kernel) ?_
                  refine lv_iload_n hx hb dX12_book_115 rfl (lv_at hl 1 rfl) ?_
                  refine r_iast (ws' := [(a5, .inl (T 0, 272, .inl (cI f2))), (a7, .inl (T 1, 12, .inr (.inl h0))), (a20, .inl (T 0, 160, .inl (cI ff29))), (a21, .inl (T 0, 4, .inl (upd (upd f5 (Int32.toNatClampNeg (iI 0)) (iI z34)) (Int32.toNatClampNeg (iI 1)) (iI z35)))), (a1, .inl (T 0, 940, .inl f0)), (a0, .inr (11, [.int fr7, .ref a1, .int (iI z8), .int (iI z9), .int fr10, .int (iI z24), .int fr25, .int (iI z26), .int (iI z27), .int fr28, .int fr19, .int fr20, .long fy21, .int (iI z22), .ref a2, .ref a3, .ref a4, .ref a5, .ref a6, .ref a7, .ref a8, .ref a9, .ref a10, .ref a11, .int (iI x7), .ref a12, .ref a13, .ref a14, .ref a15, .int (iI x8), .int r6, .int r7, .ref a16, .int r8, .int r9, .ref a17, .ref a18, .int (iI x9), .ref a19, .int (iI x10), .int r10, .ref a20, .ref a21, .int (iI z23), .int r11, .ref a22, .int (iI x12), .int (iI x13), .int (iI x14), .int (iI x15)])), (a2, .inl (T 0, 329, .inl (cI ff33))), (a6, .inl (T 0, 34, .inl (cI ff31)))]) M w 3 rfl (iI_in (by decide) (by decide) (by decide)) rfl dX12_book_116 (fun H locs w => ?_)
                  refine lv_aload_n hx hb dX12_book_117 rfl (lv_at hl 2 rfl) ?_
                  refine r_get (v := .ref a21) M w 5 42 clX12 rfl (by decide) G1505 rfl rfl dX12_book_118 ?_
                  refine lv_iconst (v := iI 2) hx hb dX12_book_121 (by decide +kernel) ?_
                  refine lv_aload_n hx hb dX12_book_122 rfl (lv_at hl 2 rfl) ?_
                  refine r_get (v := .ref a2) M w 5 14 clX12 rfl (by decide) G1477 rfl rfl dX12_book_123 ?_
                  refine lv_bipush (v := iI 53) hx hb dX12_book_126 (by decide +kernel) ?_
                  refine r_iald (v := iI (ff33 53)) M w 6 rfl (iI_in (by decide) (by decide) (by decide)) (cI_at (by omega) (by omega)) dX12_book_128 ?_
                  have hh60 : (-2147483648) ≤ (ff33 53) ∧ (ff33 53) ≤ 2147483647 := ff33_h.1 53
                  refine r_iast (ws' := [(a5, .inl (T 0, 272, .inl (cI f2))), (a7, .inl (T 1, 12, .inr (.inl h0))), (a20, .inl (T 0, 160, .inl (cI ff29))), (a21, .inl (T 0, 4, .inl (upd (upd (upd f5 (Int32.toNatClampNeg (iI 0)) (iI z34)) (Int32.toNatClampNeg (iI 1)) (iI z35)) (Int32.toNatClampNeg (iI 2)) (iI (ff33 53))))), (a1, .inl (T 0, 940, .inl f0)), (a0, .inr (11, [.int fr7, .ref a1, .int (iI z8), .int (iI z9), .int fr10, .int (iI z24), .int fr25, .int (iI z26), .int (iI z27), .int fr28, .int fr19, .int fr20, .long fy21, .int (iI z22), .ref a2, .ref a3, .ref a4, .ref a5, .ref a6, .ref a7, .ref a8, .ref a9, .ref a10, .ref a11, .int (iI x7), .ref a12, .ref a13, .ref a14, .ref a15, .int (iI x8), .int r6, .int r7, .ref a16, .int r8, .int r9, .ref a17, .ref a18, .int (iI x9), .ref a19, .int (iI x10), .int r10, .ref a20, .ref a21, .int (iI z23), .int r11, .ref a22, .int (iI x12), .int (iI x13), .int (iI x14), .int (iI x15)])), (a2, .inl (T 0, 329, .inl (cI ff33))), (a6, .inl (T 0, 34, .inl (cI ff31)))]) M w 3 rfl (iI_in (by decide) (by decide) (by decide)) rfl dX12_book_129 (fun H locs w => ?_)
                  refine lv_aload_n hx hb dX12_book_130 rfl (lv_at hl 2 rfl) ?_
                  refine r_get (v := .ref a21) M w 5 42 clX12 rfl (by decide) G1505 rfl rfl dX12_book_131 ?_
                  refine lv_iconst (v := iI 3) hx hb dX12_book_134 (by decide +kernel) ?_
                  refine lv_aload_n hx hb dX12_book_135 rfl (lv_at hl 2 rfl) ?_
                  refine k_I (ce := 0) (sl := 0) (rest := [.int (iI 3), .ref a21]) (wr := [(a5, .inl (T 0, 272, .inl (cI f2))), (a7, .inl (T 1, 12, .inr (.inl h0))), (a20, .inl (T 0, 160, .inl (cI ff29))), (a21, .inl (T 0, 4, .inl (upd (upd (upd f5 (Int32.toNatClampNeg (iI 0)) (iI z34)) (Int32.toNatClampNeg (iI 1)) (iI z35)) (Int32.toNatClampNeg (iI 2)) (iI (ff33 53))))), (a1, .inl (T 0, 940, .inl f0)), (a6, .inl (T 0, 34, .inl (cI ff31)))]) (r_V (f := 1) [5, 6] M w V_HookedCityModel_258 G1764 G73 (c47_X12_opens l D T _ a0 fr7 a1 z8 z9 fr10 z24 fr25 z26 z27 fr28 fr19 fr20 fy21 z22 a2 a3 a4 a5 a6 a7 a8 a9 a10 a11 x7 a12 a13 a14 a15 x8 r6 r7 a16 r8 r9 a17 a18 x9 a19 x10 r10 a20 a21 z23 r11 a22 x12 x13 x14 x15 ff33 z8_a z8_b z9_a z9_b z24_a z24_b z26_a z26_b z27_a z27_b z22_a z22_b x7_a x7_b x8_a x8_b x9_a x9_b x10_a x10_b z23_a z23_b x12_a x12_b x13_a x13_b x14_a x14_b x15_a x15_b ff33_h) 5 clX12 rfl rfl (by decide) rfl hl.1 rfl (Nat.le_of_ble_eq_true rfl) dX12_book_136 (by decide) (by decide) (by decide) (by decide)) w [5, 6] [0, 1, 2, 3, 4, 7] rfl rfl (by decide) (by decide) rfl rfl (fun v z61 H locs hp w => ?_)
                  have hv : iI z61 = v := hp.1
                  subst hv
                  have z61_a : (-2147483648) ≤ z61 := hp.2.1
                  have z61_b : z61 ≤ 2147483647 := hp.2.2
                  have w : WD D A s.heap [(a5, .inl (T 0, 272, .inl (cI f2))), (a7, .inl (T 1, 12, .inr (.inl h0))), (a20, .inl (T 0, 160, .inl (cI ff29))), (a21, .inl (T 0, 4, .inl (upd (upd (upd f5 (Int32.toNatClampNeg (iI 0)) (iI z34)) (Int32.toNatClampNeg (iI 1)) (iI z35)) (Int32.toNatClampNeg (iI 2)) (iI (ff33 53))))), (a1, .inl (T 0, 940, .inl f0)), (a6, .inl (T 0, 34, .inl (cI ff31))), (a0, .inr (11, [.int fr7, .ref a1, .int (iI z8), .int (iI z9), .int fr10, .int (iI z24), .int fr25, .int (iI z26), .int (iI z27), .int fr28, .int fr19, .int fr20, .long fy21, .int (iI z22), .ref a2, .ref a3, .ref a4, .ref a5, .ref a6, .ref a7, .ref a8, .ref a9, .ref a10, .ref a11, .int (iI x7), .ref a12, .ref a13, .ref a14, .ref a15, .int (iI x8), .int r6, .int r7, .ref a16, .int r8, .int r9, .ref a17, .ref a18, .int (iI x9), .ref a19, .int (iI x10), .int r10, .ref a20, .ref a21, .int (iI z23), .int r11, .ref a22, .int (iI x12), .int (iI x13), .int (iI x14), .int (iI x15)])), (a2, .inl (T 0, 329, .inl (cI ff33)))] H locs := w
                  refine r_iast (ws' := [(a5, .inl (T 0, 272, .inl (cI f2))), (a7, .inl (T 1, 12, .inr (.inl h0))), (a20, .inl (T 0, 160, .inl (cI ff29))), (a21, .inl (T 0, 4, .inl (upd (upd (upd (upd f5 (Int32.toNatClampNeg (iI 0)) (iI z34)) (Int32.toNatClampNeg (iI 1)) (iI z35)) (Int32.toNatClampNeg (iI 2)) (iI (ff33 53))) (Int32.toNatClampNeg (iI 3)) (iI z61)))), (a1, .inl (T 0, 940, .inl f0)), (a6, .inl (T 0, 34, .inl (cI ff31))), (a0, .inr (11, [.int fr7, .ref a1, .int (iI z8), .int (iI z9), .int fr10, .int (iI z24), .int fr25, .int (iI z26), .int (iI z27), .int fr28, .int fr19, .int fr20, .long fy21, .int (iI z22), .ref a2, .ref a3, .ref a4, .ref a5, .ref a6, .ref a7, .ref a8, .ref a9, .ref a10, .ref a11, .int (iI x7), .ref a12, .ref a13, .ref a14, .ref a15, .int (iI x8), .int r6, .int r7, .ref a16, .int r8, .int r9, .ref a17, .ref a18, .int (iI x9), .ref a19, .int (iI x10), .int r10, .ref a20, .ref a21, .int (iI z23), .int r11, .ref a22, .int (iI x12), .int (iI x13), .int (iI x14), .int (iI x15)])), (a2, .inl (T 0, 329, .inl (cI ff33)))]) M w 3 rfl (iI_in (by decide) (by decide) (by decide)) rfl dX12_book_139 (fun H locs w => ?_)
                  refine lv_aload_n hx hb dX12_book_140 rfl (lv_at hl 2 rfl) ?_
                  refine lv_iconst (v := iI 1) hx hb dX12_book_141 (by decide +kernel) ?_
                  refine r_put (ws' := [(a5, .inl (T 0, 272, .inl (cI f2))), (a7, .inl (T 1, 12, .inr (.inl h0))), (a20, .inl (T 0, 160, .inl (cI ff29))), (a21, .inl (T 0, 4, .inl (upd (upd (upd (upd f5 (Int32.toNatClampNeg (iI 0)) (iI z34)) (Int32.toNatClampNeg (iI 1)) (iI z35)) (Int32.toNatClampNeg (iI 2)) (iI (ff33 53))) (Int32.toNatClampNeg (iI 3)) (iI z61)))), (a1, .inl (T 0, 940, .inl f0)), (a6, .inl (T 0, 34, .inl (cI ff31))), (a0, .inr (11, [.int fr7, .ref a1, .int (iI z8), .int (iI z9), .int fr10, .int (iI z24), .int fr25, .int (iI z26), .int (iI z27), .int fr28, .int fr19, .int fr20, .long fy21, .int (iI z22), .ref a2, .ref a3, .ref a4, .ref a5, .ref a6, .ref a7, .ref a8, .ref a9, .ref a10, .ref a11, .int (iI x7), .ref a12, .ref a13, .ref a14, .ref a15, .int (iI x8), .int r6, .int r7, .ref a16, .int r8, .int r9, .ref a17, .ref a18, .int (iI x9), .ref a19, .int (iI x10), .int r10, .ref a20, .ref a21, .int (iI z23), .int (iI 1), .ref a22, .int (iI x12), .int (iI x13), .int (iI x14), .int (iI x15)])), (a2, .inl (T 0, 329, .inl (cI ff33)))]) M w 6 44 clX12 rfl (by decide) G1507 rfl rfl (by decide +kernel) (by decide +kernel) (Nat.le_of_ble_eq_true rfl) rfl dX12_book_142 (fun H locs w => ?_)
                  refine lv_aload_n hx hb dX12_book_145 rfl (lv_at hl 2 rfl) ?_
                  refine lv_iload_n hx hb dX12_book_146 rfl (lv_at hl 3 rfl) ?_
                  refine lv_iconst (v := iI 1) hx hb dX12_book_147 (by decide +kernel) ?_
                  refine lv_icmp_ne (tgt := 159) hx hb dX12_book_148 (by decide) (fun c_62 => ?_) (fun c_62 => ?_)
                  · replace c_62 : ¬ x0 = 1 := fun h => c_62 ((iI_eq (Int.le_trans (by decide) x0_a) (Int.le_trans x0_b (by decide)) (by decide) (by decide)).mpr h)
                    refine lv_iconst (v := iI 0) hx hb dX12_book_159 (by decide +kernel) ?_
                    refine k_V (ce := 0) (sl := 0) (rest := []) (wr := [(a7, .inl (T 1, 12, .inr (.inl h0))), (a20, .inl (T 0, 160, .inl (cI ff29))), (a21, .inl (T 0, 4, .inl (upd (upd (upd (upd f5 (Int32.toNatClampNeg (iI 0)) (iI z34)) (Int32.toNatClampNeg (iI 1)) (iI z35)) (Int32.toNatClampNeg (iI 2)) (iI (ff33 53))) (Int32.toNatClampNeg (iI 3)) (iI z61)))), (a1, .inl (T 0, 940, .inl f0))]) (r_V (f := 1) [6, 7, 0, 5] M w V_HookedCityModel_391 G2005 G108 (c103_X12_stay l D T _ a0 0 fr7 a1 z8 z9 fr10 z24 fr25 z26 z27 fr28 fr19 fr20 fy21 z22 a2 a3 a4 a5 a6 a7 a8 a9 a10 a11 x7 a12 a13 a14 a15 x8 r6 r7 a16 r8 r9 a17 a18 x9 a19 x10 r10 a20 a21 z23 (iI 1) a22 x12 x13 x14 x15 ff33 f2 ff31 (by decide) (by decide) z8_a z8_b z9_a z9_b z24_a z24_b z26_a z26_b z27_a z27_b z22_a z22_b x7_a x7_b x8_a x8_b x9_a x9_b x10_a x10_b z23_a z23_b x12_a x12_b x13_a x13_b x14_a x14_b x15_a x15_b ff33_h f2_h ff31_h pp_s pq32) 6 clX12 rfl rfl (by decide) rfl hl.1 rfl (Nat.le_of_ble_eq_true rfl) dX12_book_160 (by decide) (by decide) (by decide) (by decide)) w [6, 7, 0, 5] [1, 2, 3, 4] rfl rfl (by decide) (by decide) rfl rfl (fun u H locs hp w => ?_)
                    obtain ⟨z63, ff64, ff65, ff66⟩ := u
                    have z63_a : 0 ≤ z63 := hp.1
                    have z63_b : z63 ≤ 8 := hp.2.1
                    have ff64_h : nowI ff64 := hp.2.2.1
                    have ff65_h : FL ff65 := hp.2.2.2.1
                    have ff66_h : FL ff66 := hp.2.2.2.2.1
                    have pq67 : snI ff65 z63 := hp.2.2.2.2.2
                    have w : WD D A s.heap [(a7, .inl (T 1, 12, .inr (.inl h0))), (a20, .inl (T 0, 160, .inl (cI ff29))), (a21, .inl (T 0, 4, .inl (upd (upd (upd (upd f5 (Int32.toNatClampNeg (iI 0)) (iI z34)) (Int32.toNatClampNeg (iI 1)) (iI z35)) (Int32.toNatClampNeg (iI 2)) (iI (ff33 53))) (Int32.toNatClampNeg (iI 3)) (iI z61)))), (a1, .inl (T 0, 940, .inl f0)), (a0, .inr (11, [.int fr7, .ref a1, .int (iI z8), .int (iI z9), .int fr10, .int (iI z24), .int fr25, .int (iI z26), .int (iI z27), .int fr28, .int fr19, .int fr20, .long fy21, .int (iI z22), .ref a2, .ref a3, .ref a4, .ref a5, .ref a6, .ref a7, .ref a8, .ref a9, .ref a10, .ref a11, .int (iI z63), .ref a12, .ref a13, .ref a14, .ref a15, .int (iI x8), .int r6, .int r7, .ref a16, .int r8, .int r9, .ref a17, .ref a18, .int (iI x9), .ref a19, .int (iI x10), .int r10, .ref a20, .ref a21, .int (iI z23), .int (iI 1), .ref a22, .int (iI x12), .int (iI x13), .int (iI x14), .int (iI x15)])), (a2, .inl (T 0, 329, .inl (cI ff64))), (a5, .inl (T 0, 272, .inl (cI ff65))), (a6, .inl (T 0, 34, .inl (cI ff66)))] H locs := w
                    refine lv_iload_n hx hb dX12_book_163 rfl (lv_at hl 0 rfl) ?_
                    refine lv_if_ne (tgt := 171) hx hb dX12_book_164 (by decide) (fun c_68 => ?_) (fun c_68 => ?_)
                    · replace c_68 : ¬ z34 = 0 := fun h => c_68 ((iz_eq (Int.le_trans (by decide) z34_a) (Int.le_trans z34_b (by decide))).mpr h)
                      refine lv_iload_n hx hb dX12_book_171 rfl (lv_at hl 1 rfl) ?_
                      exact ret _ (z35, fr7, z8, z9, fr10, z24, fr25, z26, z27, fr28, fr19, fr20, fy21, z22, z63, z23, (iI 1), ff64, ff65, ff66, ff29, (upd (upd (upd (upd f5 (Int32.toNatClampNeg (iI 0)) (iI z34)) (Int32.toNatClampNeg (iI 1)) (iI z35)) (Int32.toNatClampNeg (iI 2)) (iI (ff33 53))) (Int32.toNatClampNeg (iI 3)) (iI z61))) _ _ _ _ _ [4, 3, 5, 6, 7, 0, 1, 2] dX12_book_172 ⟨rfl, (show (-2147483648) ≤ z35 from by omega), (show z35 ≤ 2147483647 from by omega), z8_a, z8_b, z9_a, z9_b, z24_a, z24_b, z26_a, z26_b, z27_a, z27_b, z22_a, z22_b, z63_a, z63_b, z23_a, z23_b, ff64_h, ff65_h, ff66_h, ff29_h, (show snI ff65 z63 from pq67), (show bkT x0 x1 z8 from (by unfold bkT; omega))⟩ w (by decide) rfl
                    · replace c_68 := (iz_eq (Int.le_trans (by decide) z34_a) (Int.le_trans z34_b (by decide))).mp c_68
                      exfalso; omega
                  · replace c_62 := (iI_eq (Int.le_trans (by decide) x0_a) (Int.le_trans x0_b (by decide)) (by decide) (by decide)).mp c_62
                    refine lv_iload_n hx hb dX12_book_151 rfl (lv_at hl 1 rfl) ?_
                    refine lv_if_le (tgt := 159) hx hb dX12_book_152 (by decide) (fun c_69 => ?_) (fun c_69 => ?_)
                    · replace c_69 := (iz_le (Int.le_trans (by decide) z35_a) (Int.le_trans z35_b (by decide))).mp c_69
                      refine lv_iconst (v := iI 0) hx hb dX12_book_159 (by decide +kernel) ?_
                      refine k_V (ce := 0) (sl := 0) (rest := []) (wr := [(a7, .inl (T 1, 12, .inr (.inl h0))), (a20, .inl (T 0, 160, .inl (cI ff29))), (a21, .inl (T 0, 4, .inl (upd (upd (upd (upd f5 (Int32.toNatClampNeg (iI 0)) (iI z34)) (Int32.toNatClampNeg (iI 1)) (iI z35)) (Int32.toNatClampNeg (iI 2)) (iI (ff33 53))) (Int32.toNatClampNeg (iI 3)) (iI z61)))), (a1, .inl (T 0, 940, .inl f0))]) (r_V (f := 1) [6, 7, 0, 5] M w V_HookedCityModel_391 G2005 G108 (c103_X12_stay l D T _ a0 0 fr7 a1 z8 z9 fr10 z24 fr25 z26 z27 fr28 fr19 fr20 fy21 z22 a2 a3 a4 a5 a6 a7 a8 a9 a10 a11 x7 a12 a13 a14 a15 x8 r6 r7 a16 r8 r9 a17 a18 x9 a19 x10 r10 a20 a21 z23 (iI 1) a22 x12 x13 x14 x15 ff33 f2 ff31 (by decide) (by decide) z8_a z8_b z9_a z9_b z24_a z24_b z26_a z26_b z27_a z27_b z22_a z22_b x7_a x7_b x8_a x8_b x9_a x9_b x10_a x10_b z23_a z23_b x12_a x12_b x13_a x13_b x14_a x14_b x15_a x15_b ff33_h f2_h ff31_h pp_s pq32) 6 clX12 rfl rfl (by decide) rfl hl.1 rfl (Nat.le_of_ble_eq_true rfl) dX12_book_160 (by decide) (by decide) (by decide) (by decide)) w [6, 7, 0, 5] [1, 2, 3, 4] rfl rfl (by decide) (by decide) rfl rfl (fun u H locs hp w => ?_)
                      obtain ⟨z70, ff71, ff72, ff73⟩ := u
                      have z70_a : 0 ≤ z70 := hp.1
                      have z70_b : z70 ≤ 8 := hp.2.1
                      have ff71_h : nowI ff71 := hp.2.2.1
                      have ff72_h : FL ff72 := hp.2.2.2.1
                      have ff73_h : FL ff73 := hp.2.2.2.2.1
                      have pq74 : snI ff72 z70 := hp.2.2.2.2.2
                      have w : WD D A s.heap [(a7, .inl (T 1, 12, .inr (.inl h0))), (a20, .inl (T 0, 160, .inl (cI ff29))), (a21, .inl (T 0, 4, .inl (upd (upd (upd (upd f5 (Int32.toNatClampNeg (iI 0)) (iI z34)) (Int32.toNatClampNeg (iI 1)) (iI z35)) (Int32.toNatClampNeg (iI 2)) (iI (ff33 53))) (Int32.toNatClampNeg (iI 3)) (iI z61)))), (a1, .inl (T 0, 940, .inl f0)), (a0, .inr (11, [.int fr7, .ref a1, .int (iI z8), .int (iI z9), .int fr10, .int (iI z24), .int fr25, .int (iI z26), .int (iI z27), .int fr28, .int fr19, .int fr20, .long fy21, .int (iI z22), .ref a2, .ref a3, .ref a4, .ref a5, .ref a6, .ref a7, .ref a8, .ref a9, .ref a10, .ref a11, .int (iI z70), .ref a12, .ref a13, .ref a14, .ref a15, .int (iI x8), .int r6, .int r7, .ref a16, .int r8, .int r9, .ref a17, .ref a18, .int (iI x9), .ref a19, .int (iI x10), .int r10, .ref a20, .ref a21, .int (iI z23), .int (iI 1), .ref a22, .int (iI x12), .int (iI x13), .int (iI x14), .int (iI x15)])), (a2, .inl (T 0, 329, .inl (cI ff71))), (a5, .inl (T 0, 272, .inl (cI ff72))), (a6, .inl (T 0, 34, .inl (cI ff73)))] H locs := w
                      refine lv_iload_n hx hb dX12_book_163 rfl (lv_at hl 0 rfl) ?_
                      refine lv_if_ne (tgt := 171) hx hb dX12_book_164 (by decide) (fun c_75 => ?_) (fun c_75 => ?_)
                      · replace c_75 : ¬ z34 = 0 := fun h => c_75 ((iz_eq (Int.le_trans (by decide) z34_a) (Int.le_trans z34_b (by decide))).mpr h)
                        refine lv_iload_n hx hb dX12_book_171 rfl (lv_at hl 1 rfl) ?_
                        exact ret _ (z35, fr7, z8, z9, fr10, z24, fr25, z26, z27, fr28, fr19, fr20, fy21, z22, z70, z23, (iI 1), ff71, ff72, ff73, ff29, (upd (upd (upd (upd f5 (Int32.toNatClampNeg (iI 0)) (iI z34)) (Int32.toNatClampNeg (iI 1)) (iI z35)) (Int32.toNatClampNeg (iI 2)) (iI (ff33 53))) (Int32.toNatClampNeg (iI 3)) (iI z61))) _ _ _ _ _ [4, 3, 5, 6, 7, 0, 1, 2] dX12_book_172 ⟨rfl, (show (-2147483648) ≤ z35 from by omega), (show z35 ≤ 2147483647 from by omega), z8_a, z8_b, z9_a, z9_b, z24_a, z24_b, z26_a, z26_b, z27_a, z27_b, z22_a, z22_b, z70_a, z70_b, z23_a, z23_b, ff71_h, ff72_h, ff73_h, ff29_h, (show snI ff72 z70 from pq74), (show bkT x0 x1 z8 from (by unfold bkT; omega))⟩ w (by decide) rfl
                      · replace c_75 := (iz_eq (Int.le_trans (by decide) z34_a) (Int.le_trans z34_b (by decide))).mp c_75
                        exfalso; omega
                    · replace c_69 : 0 < z35 := Int.not_le.mp (fun h => c_69 ((iz_le (Int.le_trans (by decide) z35_a) (Int.le_trans z35_b (by decide))).mpr h))
                      refine lv_iconst (v := iI 1) hx hb dX12_book_155 (by decide +kernel) ?_
                      refine lv_goto (tgt := 160) hx hb dX12_book_156 (by decide) ?_
                      refine k_V (ce := 0) (sl := 0) (rest := []) (wr := [(a7, .inl (T 1, 12, .inr (.inl h0))), (a20, .inl (T 0, 160, .inl (cI ff29))), (a21, .inl (T 0, 4, .inl (upd (upd (upd (upd f5 (Int32.toNatClampNeg (iI 0)) (iI z34)) (Int32.toNatClampNeg (iI 1)) (iI z35)) (Int32.toNatClampNeg (iI 2)) (iI (ff33 53))) (Int32.toNatClampNeg (iI 3)) (iI z61)))), (a1, .inl (T 0, 940, .inl f0))]) (r_V (f := 1) [6, 7, 0, 5] M w V_HookedCityModel_391 G2005 G108 (c103_X12_stay l D T _ a0 1 fr7 a1 z8 z9 fr10 z24 fr25 z26 z27 fr28 fr19 fr20 fy21 z22 a2 a3 a4 a5 a6 a7 a8 a9 a10 a11 x7 a12 a13 a14 a15 x8 r6 r7 a16 r8 r9 a17 a18 x9 a19 x10 r10 a20 a21 z23 (iI 1) a22 x12 x13 x14 x15 ff33 f2 ff31 (by decide) (by decide) z8_a z8_b z9_a z9_b z24_a z24_b z26_a z26_b z27_a z27_b z22_a z22_b x7_a x7_b x8_a x8_b x9_a x9_b x10_a x10_b z23_a z23_b x12_a x12_b x13_a x13_b x14_a x14_b x15_a x15_b ff33_h f2_h ff31_h pp_s pq32) 6 clX12 rfl rfl (by decide) rfl hl.1 rfl (Nat.le_of_ble_eq_true rfl) dX12_book_160 (by decide) (by decide) (by decide) (by decide)) w [6, 7, 0, 5] [1, 2, 3, 4] rfl rfl (by decide) (by decide) rfl rfl (fun u H locs hp w => ?_)
                      obtain ⟨z76, ff77, ff78, ff79⟩ := u
                      have z76_a : 0 ≤ z76 := hp.1
                      have z76_b : z76 ≤ 8 := hp.2.1
                      have ff77_h : nowI ff77 := hp.2.2.1
                      have ff78_h : FL ff78 := hp.2.2.2.1
                      have ff79_h : FL ff79 := hp.2.2.2.2.1
                      have pq80 : snI ff78 z76 := hp.2.2.2.2.2
                      have w : WD D A s.heap [(a7, .inl (T 1, 12, .inr (.inl h0))), (a20, .inl (T 0, 160, .inl (cI ff29))), (a21, .inl (T 0, 4, .inl (upd (upd (upd (upd f5 (Int32.toNatClampNeg (iI 0)) (iI z34)) (Int32.toNatClampNeg (iI 1)) (iI z35)) (Int32.toNatClampNeg (iI 2)) (iI (ff33 53))) (Int32.toNatClampNeg (iI 3)) (iI z61)))), (a1, .inl (T 0, 940, .inl f0)), (a0, .inr (11, [.int fr7, .ref a1, .int (iI z8), .int (iI z9), .int fr10, .int (iI z24), .int fr25, .int (iI z26), .int (iI z27), .int fr28, .int fr19, .int fr20, .long fy21, .int (iI z22), .ref a2, .ref a3, .ref a4, .ref a5, .ref a6, .ref a7, .ref a8, .ref a9, .ref a10, .ref a11, .int (iI z76), .ref a12, .ref a13, .ref a14, .ref a15, .int (iI x8), .int r6, .int r7, .ref a16, .int r8, .int r9, .ref a17, .ref a18, .int (iI x9), .ref a19, .int (iI x10), .int r10, .ref a20, .ref a21, .int (iI z23), .int (iI 1), .ref a22, .int (iI x12), .int (iI x13), .int (iI x14), .int (iI x15)])), (a2, .inl (T 0, 329, .inl (cI ff77))), (a5, .inl (T 0, 272, .inl (cI ff78))), (a6, .inl (T 0, 34, .inl (cI ff79)))] H locs := w
                      refine lv_iload_n hx hb dX12_book_163 rfl (lv_at hl 0 rfl) ?_
                      refine lv_if_ne (tgt := 171) hx hb dX12_book_164 (by decide) (fun c_81 => ?_) (fun c_81 => ?_)
                      · replace c_81 : ¬ z34 = 0 := fun h => c_81 ((iz_eq (Int.le_trans (by decide) z34_a) (Int.le_trans z34_b (by decide))).mpr h)
                        refine lv_iload_n hx hb dX12_book_171 rfl (lv_at hl 1 rfl) ?_
                        exact ret _ (z35, fr7, z8, z9, fr10, z24, fr25, z26, z27, fr28, fr19, fr20, fy21, z22, z76, z23, (iI 1), ff77, ff78, ff79, ff29, (upd (upd (upd (upd f5 (Int32.toNatClampNeg (iI 0)) (iI z34)) (Int32.toNatClampNeg (iI 1)) (iI z35)) (Int32.toNatClampNeg (iI 2)) (iI (ff33 53))) (Int32.toNatClampNeg (iI 3)) (iI z61))) _ _ _ _ _ [4, 3, 5, 6, 7, 0, 1, 2] dX12_book_172 ⟨rfl, (show (-2147483648) ≤ z35 from by omega), (show z35 ≤ 2147483647 from by omega), z8_a, z8_b, z9_a, z9_b, z24_a, z24_b, z26_a, z26_b, z27_a, z27_b, z22_a, z22_b, z76_a, z76_b, z23_a, z23_b, ff77_h, ff78_h, ff79_h, ff29_h, (show snI ff78 z76 from pq80), (show bkT x0 x1 z8 from (by unfold bkT; omega))⟩ w (by decide) rfl
                      · replace c_81 := (iz_eq (Int.le_trans (by decide) z34_a) (Int.le_trans z34_b (by decide))).mp c_81
                        exfalso; omega
                · replace c_59 := (iz_eq (Int.le_trans (by decide) z34_a) (Int.le_trans z34_b (by decide))).mp c_59
                  refine lv_aload_n hx hb dX12_book_85 rfl (lv_at hl 2 rfl) ?_
                  refine lv_iconst (v := iI 4) hx hb dX12_book_86 (by decide +kernel) ?_
                  refine lv_iload_n hx hb dX12_book_87 rfl (lv_at hl 1 rfl) ?_
                  refine r_imul (v := iI (4 * z35)) M (iI_mul _ _) dX12_book_88 ?_
                  refine k_I (ce := 0) (sl := 0) (rest := []) (wr := [(a5, .inl (T 0, 272, .inl (cI f2))), (a7, .inl (T 1, 12, .inr (.inl h0))), (a21, .inl (T 0, 4, .inl f5)), (a1, .inl (T 0, 940, .inl f0)), (a6, .inl (T 0, 34, .inl (cI ff31)))]) (r_V (f := 4) [5, 6, 2] M w V_HookedCityModel_385 G2001 G107 (c108_X12_goBy l D T _ a0 (4 * z35) fr7 a1 z8 z9 fr10 z24 fr25 z26 z27 fr28 fr19 fr20 fy21 z22 a2 a3 a4 a5 a6 a7 a8 a9 a10 a11 x7 a12 a13 a14 a15 x8 r6 r7 a16 r8 r9 a17 a18 x9 a19 x10 r10 a20 a21 z23 r11 a22 x12 x13 x14 x15 ff33 ff29 (by omega) (by omega) z8_a z8_b z9_a z9_b z24_a z24_b z26_a z26_b z27_a z27_b z22_a z22_b x7_a x7_b x8_a x8_b x9_a x9_b x10_a x10_b z23_a z23_b x12_a x12_b x13_a x13_b x14_a x14_b x15_a x15_b ff33_h ff29_h (ff29_h.2 z35 (by omega) (by omega))) 5 clX12 rfl rfl (by decide) rfl hl.1 rfl (Nat.le_of_ble_eq_true rfl) dX12_book_89 (by decide) (by decide) (by decide) (by decide)) w [5, 6, 2] [0, 1, 3, 4, 7] rfl rfl (by decide) (by decide) rfl rfl (fun v u H locs hp w => ?_)
                  obtain ⟨z82, ff83⟩ := u
                  have hv : iI z82 = v := hp.1
                  subst hv
                  have z82_a : 0 ≤ z82 := hp.2.1
                  have z82_b : z82 ≤ 31 := hp.2.2.1
                  have ff83_h : nowI ff83 := hp.2.2.2
                  have w : WD D A s.heap [(a5, .inl (T 0, 272, .inl (cI f2))), (a7, .inl (T 1, 12, .inr (.inl h0))), (a21, .inl (T 0, 4, .inl f5)), (a1, .inl (T 0, 940, .inl f0)), (a6, .inl (T 0, 34, .inl (cI ff31))), (a0, .inr (11, [.int fr7, .ref a1, .int (iI z8), .int (iI z9), .int fr10, .int (iI z24), .int fr25, .int (iI z26), .int (iI z27), .int fr28, .int fr19, .int fr20, .long fy21, .int (iI z22), .ref a2, .ref a3, .ref a4, .ref a5, .ref a6, .ref a7, .ref a8, .ref a9, .ref a10, .ref a11, .int (iI x7), .ref a12, .ref a13, .ref a14, .ref a15, .int (iI x8), .int r6, .int r7, .ref a16, .int r8, .int r9, .ref a17, .ref a18, .int (iI x9), .ref a19, .int (iI x10), .int r10, .ref a20, .ref a21, .int (iI z23), .int r11, .ref a22, .int (iI x12), .int (iI x13), .int (iI x14), .int (iI x15)])), (a2, .inl (T 0, 329, .inl (cI ff83))), (a20, .inl (T 0, 160, .inl (cI ff29)))] H locs := w
                  refine lv_istore_n (lv' := [(3, .int (iI z82)), (2, .int (iI z35)), (0, .ref a0), (1, .int (iI x0))]) hx hb dX12_book_92 rfl hl (by decide) rfl (fun ls hl => ?_)
                  refine lv_iload_n hx hb dX12_book_93 rfl (lv_at hl 0 rfl) ?_
                  refine lv_if_ne (tgt := 73) hx hb dX12_book_94 (by decide) (fun c_84 => ?_) (fun c_84 => ?_)
                  · replace c_84 : ¬ z82 = 0 := fun h => c_84 ((iz_eq (Int.le_trans (by decide) z82_a) (Int.le_trans z82_b (by decide))).mpr h)
                    exact ih2 ff83 z82 z35 _ _ _ ff83_h z82_a z82_b z35_a z35_b (by omega) (w.sub [0, 1, 7, 2, 3, 5, 6, 4] (by decide) rfl) (lv_sub hl [0, 1, 2, 3] rfl)
                  · replace c_84 := (iz_eq (Int.le_trans (by decide) z82_a) (Int.le_trans z82_b (by decide))).mp c_84
                    refine lv_iinc (v := iI (z35 + 1)) (lv' := [(2, .int (iI (z35 + 1))), (3, .int (iI z82)), (0, .ref a0), (1, .int (iI x0))]) hx hb dX12_book_97 hl (k := 1) rfl (ii_inc (by decide +kernel)) (by decide) rfl (fun ls hl => ?_)
                    refine lv_goto (tgt := 73) hx hb dX12_book_100 (by decide) ?_
                    exact ih2 ff83 z82 (z35 + 1) _ _ _ ff83_h z82_a z82_b (by omega) (by omega) (by omega) (w.sub [0, 1, 7, 2, 3, 5, 6, 4] (by decide) rfl) (lv_sub hl [1, 0, 2, 3] rfl)
          exact loop2 ((4031 : Int).toNat + 1) f1 0 0 _ _ _ f1_h (by decide) (by decide) (by decide) (by decide) (Nat.lt_succ_self _) w (lv_sub hl [0, 1, 2, 3] rfl)
        · replace c_30 : ¬ z26 = 0 := fun h => c_30 ((iz_eq (Int.le_trans (by decide) z26_a) (Int.le_trans z26_b (by decide))).mpr h)
          refine lv_aload_n hx hb dX12_book_37 rfl (lv_at hl 0 rfl) ?_
          refine k_I (ce := 0) (sl := 0) (rest := []) (wr := [(a5, .inl (T 0, 272, .inl (cI f2))), (a6, .inl (T 0, 34, .inl (cI f3))), (a21, .inl (T 0, 4, .inl f5))]) (r_V (f := 5) [6, 7, 0, 3, 4] M w V_HookedCityModel_382 G1985 G103 (c107_X12_readBookLine l D T _ a0 fr7 a1 z8 z9 fr10 z24 fr25 z26 z27 fr28 fr19 fr20 fy21 z22 a2 a3 a4 a5 a6 a7 a8 a9 a10 a11 x7 a12 a13 a14 a15 x8 r6 r7 a16 r8 r9 a17 a18 x9 a19 x10 r10 a20 a21 z23 r11 a22 x12 x13 x14 x15 f0 f1 h0 ff29 z8_a z8_b z9_a z9_b z24_a z24_b z26_a z26_b z27_a z27_b z22_a z22_b x7_a x7_b x8_a x8_b x9_a x9_b x10_a x10_b z23_a z23_b x12_a x12_b x13_a x13_b x14_a x14_b x15_a x15_b f1_h ff29_h) 6 clX12 rfl rfl (by decide) rfl hl.1 rfl (Nat.le_of_ble_eq_true rfl) dX12_book_38 (by decide) (by decide) (by decide) (by decide)) w [6, 7, 0, 3, 4] [1, 2, 5] rfl rfl (by decide) (by decide) rfl rfl (fun v u H locs hp w => ?_)
          obtain ⟨z85, z86, fr87, z88, z89, fr90, fr91, fr92, fy93, z94, ff95⟩ := u
          have hv : iI z85 = v := hp.1
          subst hv
          have z85_a : 0 ≤ z85 := hp.2.1
          have z85_b : z85 ≤ 1 := hp.2.2.1
          have z86_a : 0 ≤ z86 := hp.2.2.2.1
          have z86_b : z86 ≤ 940 := hp.2.2.2.2.1
          have z88_a : 0 ≤ z88 := hp.2.2.2.2.2.1
          have z88_b : z88 ≤ 4 := hp.2.2.2.2.2.2.1
          have z89_a : (-2147483648) ≤ z89 := hp.2.2.2.2.2.2.2.1
          have z89_b : z89 ≤ 2147483647 := hp.2.2.2.2.2.2.2.2.1
          have z94_a : (-2147483648) ≤ z94 := hp.2.2.2.2.2.2.2.2.2.1
          have z94_b : z94 ≤ 2147483647 := hp.2.2.2.2.2.2.2.2.2.2.1
          have ff95_h : lnI ff95 := hp.2.2.2.2.2.2.2.2.2.2.2.1
          have ee96 : 0 ≤ ((z86 - z24) - z85) := hp.2.2.2.2.2.2.2.2.2.2.2.2.1
          have ee97 : 0 ≤ ((79 - z23) - (z85 * 40)) := hp.2.2.2.2.2.2.2.2.2.2.2.2.2
          have w : WD D A s.heap [(a5, .inl (T 0, 272, .inl (cI f2))), (a6, .inl (T 0, 34, .inl (cI f3))), (a21, .inl (T 0, 4, .inl f5)), (a0, .inr (11, [.int fr7, .ref a1, .int (iI z8), .int (iI z9), .int fr10, .int (iI z86), .int fr87, .int (iI z88), .int (iI z89), .int fr90, .int fr91, .int fr92, .long fy93, .int (iI z94), .ref a2, .ref a3, .ref a4, .ref a5, .ref a6, .ref a7, .ref a8, .ref a9, .ref a10, .ref a11, .int (iI x7), .ref a12, .ref a13, .ref a14, .ref a15, .int (iI x8), .int r6, .int r7, .ref a16, .int r8, .int r9, .ref a17, .ref a18, .int (iI x9), .ref a19, .int (iI x10), .int r10, .ref a20, .ref a21, .int (iI z23), .int r11, .ref a22, .int (iI x12), .int (iI x13), .int (iI x14), .int (iI x15)])), (a1, .inl (T 0, 940, .inl f0)), (a2, .inl (T 0, 329, .inl (cI f1))), (a7, .inl (T 1, 12, .inr (.inl h0))), (a20, .inl (T 0, 160, .inl (cI ff95)))] H locs := w
          refine lv_if_ne (tgt := 52) hx hb dX12_book_41 (by decide) (fun c_98 => ?_) (fun c_98 => ?_)
          · replace c_98 : ¬ z85 = 0 := fun h => c_98 ((iz_eq (Int.le_trans (by decide) z85_a) (Int.le_trans z85_b (by decide))).mpr h)
            refine lv_aload_n hx hb dX12_book_52 rfl (lv_at hl 0 rfl) ?_
            refine lv_dup hx hb dX12_book_53 rfl ?_
            refine r_get (v := .int (iI z23)) M w 3 43 clX12 rfl (by decide) G1506 rfl rfl dX12_book_54 ?_
            refine lv_iconst (v := iI 1) hx hb dX12_book_57 (by decide +kernel) ?_
            refine r_iadd (v := iI (z23 + 1)) M (iI_add _ _) dX12_book_58 ?_
            refine r_put (ws' := [(a5, .inl (T 0, 272, .inl (cI f2))), (a6, .inl (T 0, 34, .inl (cI f3))), (a21, .inl (T 0, 4, .inl f5)), (a0, .inr (11, [.int fr7, .ref a1, .int (iI z8), .int (iI z9), .int fr10, .int (iI z86), .int fr87, .int (iI z88), .int (iI z89), .int fr90, .int fr91, .int fr92, .long fy93, .int (iI z94), .ref a2, .ref a3, .ref a4, .ref a5, .ref a6, .ref a7, .ref a8, .ref a9, .ref a10, .ref a11, .int (iI x7), .ref a12, .ref a13, .ref a14, .ref a15, .int (iI x8), .int r6, .int r7, .ref a16, .int r8, .int r9, .ref a17, .ref a18, .int (iI x9), .ref a19, .int (iI x10), .int r10, .ref a20, .ref a21, .int (iI (z23 + 1)), .int r11, .ref a22, .int (iI x12), .int (iI x13), .int (iI x14), .int (iI x15)])), (a1, .inl (T 0, 940, .inl f0)), (a2, .inl (T 0, 329, .inl (cI f1))), (a7, .inl (T 1, 12, .inr (.inl h0))), (a20, .inl (T 0, 160, .inl (cI ff95)))]) M w 3 43 clX12 rfl (by decide) G1506 rfl rfl rfl rfl (Nat.le_of_ble_eq_true rfl) rfl dX12_book_59 (fun H locs w => ?_)
            refine lv_goto (tgt := 30) hx hb dX12_book_62 (by decide) ?_
            exact ih1 fr91 fr92 fy93 z94 (z23 + 1) z86 fr87 z88 z89 fr90 ff95 _ _ _ z94_a z94_b (by omega) (by omega) z86_a z86_b z88_a z88_b z89_a z89_b ff95_h (by omega) (w.sub [5, 0, 1, 6, 7, 2, 3, 4] (by decide) rfl) (lv_sub hl [0, 1] rfl)
          · replace c_98 := (iz_eq (Int.le_trans (by decide) z85_a) (Int.le_trans z85_b (by decide))).mp c_98
            refine lv_bipush (v := iI (-2)) hx hb dX12_book_44 (by decide +kernel) ?_
            refine lv_aload_n hx hb dX12_book_46 rfl (lv_at hl 0 rfl) ?_
            refine r_get (v := .int fr92) M w 3 11 clX12 rfl (by decide) G1474 rfl rfl dX12_book_47 ?_
            refine b_any (fun z99 z99_a z99_b => ?_)
            refine r_isub (v := _) M rfl dX12_book_50 ?_
            refine b_any (fun z100 z100_a z100_b => ?_)
            exact ret _ (z100, fr7, z8, z9, fr10, z86, fr87, z88, z89, fr90, fr91, fr92, fy93, z94, x7, z23, r11, f1, f2, f3, ff95, f5) _ _ _ _ _ [3, 4, 5, 0, 1, 6, 7, 2] dX12_book_51 ⟨rfl, z100_a, z100_b, z8_a, z8_b, z9_a, z9_b, z86_a, z86_b, z88_a, z88_b, z89_a, z89_b, z94_a, z94_b, x7_a, x7_b, z23_a, z23_b, f1_h, f2_h, f3_h, ff95_h, (show snI f2 x7 from pp_s), (show bkT x0 x1 z8 from (by unfold bkT; omega))⟩ w (by decide) rfl
    exact loop1 (((940 - z11) : Int).toNat + 1) fr16 r5 fy17 x6 0 z11 fr12 z13 z14 fr15 f4 _ _ _ x6_a x6_b (by decide) (by decide) z11_a z11_b z13_a z13_b z14_a z14_b f4_h (Nat.lt_succ_self _) w (lv_sub hl [0, 1] rfl)
